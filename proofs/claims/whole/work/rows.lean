section
-- ===== PART A: goes FIRST, ahead of the names: the tables' words, and 'selects' of the private methods out of them =====
/-- a private method of a class that the tables say can be made, by its rows of tables_1 -/
def lw_okq (q : MethodName × Nat) : Prop := (q.1.cls ≠ "java/lang/invoke/MethodHandle" ∧ q.1.cls ≠ "java/lang/invoke/VarHandle") ∧ Cond.instantiable q.1.cls q.2 ∈ tables_1 ∧ Cond.privateMethod q.1 ∈ tables_1 ∧ Cond.instanceMethod q.1 ∈ tables_1
theorem lw_p0 : lw_okq (⟨"TornPages$History", "state", "(I)LTornPages$Desk;"⟩, 3) := ⟨⟨by decide +kernel, by decide +kernel⟩, List.mem_of_getElem? (i := 108) (by decide +kernel), List.mem_of_getElem? (i := 232) (by decide +kernel), List.mem_of_getElem? (i := 233) (by decide +kernel)⟩
theorem lw_p1 : lw_okq (⟨"TornPages", "append", "(LTornPages$Draft;)I"⟩, 6) := ⟨⟨by decide +kernel, by decide +kernel⟩, List.mem_of_getElem? (i := 15) (by decide +kernel), List.mem_of_getElem? (i := 280) (by decide +kernel), List.mem_of_getElem? (i := 281) (by decide +kernel)⟩
theorem lw_p2 : lw_okq (⟨"TornPages$Text", "takeSign", "(C)V"⟩, 5) := ⟨⟨by decide +kernel, by decide +kernel⟩, List.mem_of_getElem? (i := 142) (by decide +kernel), List.mem_of_getElem? (i := 325) (by decide +kernel), List.mem_of_getElem? (i := 326) (by decide +kernel)⟩
theorem lw_p3 : lw_okq (⟨"TornPages$Text", "next", "()I"⟩, 5) := ⟨⟨by decide +kernel, by decide +kernel⟩, List.mem_of_getElem? (i := 142) (by decide +kernel), List.mem_of_getElem? (i := 329) (by decide +kernel), List.mem_of_getElem? (i := 330) (by decide +kernel)⟩
theorem lw_p4 : lw_okq (⟨"TornPages$Text", "takeEdge", "(I)V"⟩, 5) := ⟨⟨by decide +kernel, by decide +kernel⟩, List.mem_of_getElem? (i := 142) (by decide +kernel), List.mem_of_getElem? (i := 334) (by decide +kernel), List.mem_of_getElem? (i := 335) (by decide +kernel)⟩
theorem lw_p5 : lw_okq (⟨"TornPages$Text", "takeDigit", "(I)I"⟩, 5) := ⟨⟨by decide +kernel, by decide +kernel⟩, List.mem_of_getElem? (i := 142) (by decide +kernel), List.mem_of_getElem? (i := 338) (by decide +kernel), List.mem_of_getElem? (i := 339) (by decide +kernel)⟩
theorem lw_p6 : lw_okq (⟨"TornPages", "isScrap", "(I)Z"⟩, 6) := ⟨⟨by decide +kernel, by decide +kernel⟩, List.mem_of_getElem? (i := 15) (by decide +kernel), List.mem_of_getElem? (i := 356) (by decide +kernel), List.mem_of_getElem? (i := 357) (by decide +kernel)⟩
theorem lw_p7 : lw_okq (⟨"TornPages", "propertyOnPage", "(II)I"⟩, 6) := ⟨⟨by decide +kernel, by decide +kernel⟩, List.mem_of_getElem? (i := 15) (by decide +kernel), List.mem_of_getElem? (i := 392) (by decide +kernel), List.mem_of_getElem? (i := 393) (by decide +kernel)⟩
theorem lw_p8 : lw_okq (⟨"TornPages$Groups", "join", "(LTornPages$Desk;II)V"⟩, 2) := ⟨⟨by decide +kernel, by decide +kernel⟩, List.mem_of_getElem? (i := 127) (by decide +kernel), List.mem_of_getElem? (i := 407) (by decide +kernel), List.mem_of_getElem? (i := 408) (by decide +kernel)⟩
theorem lw_p9 : lw_okq (⟨"TornPages$Desk", "verdictOnPage", "(II)I"⟩, 2) := ⟨⟨by decide +kernel, by decide +kernel⟩, List.mem_of_getElem? (i := 23) (by decide +kernel), List.mem_of_getElem? (i := 436) (by decide +kernel), List.mem_of_getElem? (i := 437) (by decide +kernel)⟩
theorem lw_p10 : lw_okq (⟨"TornPages$Groups", "countBelow", "(I)I"⟩, 2) := ⟨⟨by decide +kernel, by decide +kernel⟩, List.mem_of_getElem? (i := 127) (by decide +kernel), List.mem_of_getElem? (i := 460) (by decide +kernel), List.mem_of_getElem? (i := 461) (by decide +kernel)⟩
theorem lw_p11 : lw_okq (⟨"TornPages$Desk", "isAtBorder", "(II)Z"⟩, 2) := ⟨⟨by decide +kernel, by decide +kernel⟩, List.mem_of_getElem? (i := 23) (by decide +kernel), List.mem_of_getElem? (i := 525) (by decide +kernel), List.mem_of_getElem? (i := 526) (by decide +kernel)⟩
theorem lw_p12 : lw_okq (⟨"TornPages", "isPlace", "(I)Z"⟩, 6) := ⟨⟨by decide +kernel, by decide +kernel⟩, List.mem_of_getElem? (i := 15) (by decide +kernel), List.mem_of_getElem? (i := 538) (by decide +kernel), List.mem_of_getElem? (i := 539) (by decide +kernel)⟩
theorem lw_p13 : lw_okq (⟨"TornPages", "isFree", "(II)Z"⟩, 6) := ⟨⟨by decide +kernel, by decide +kernel⟩, List.mem_of_getElem? (i := 15) (by decide +kernel), List.mem_of_getElem? (i := 542) (by decide +kernel), List.mem_of_getElem? (i := 543) (by decide +kernel)⟩
theorem lw_p14 : lw_okq (⟨"TornPagesModel", "records", "()V"⟩, 12) := ⟨⟨by decide +kernel, by decide +kernel⟩, List.mem_of_getElem? (i := 655) (by decide +kernel), List.mem_of_getElem? (i := 706) (by decide +kernel), List.mem_of_getElem? (i := 707) (by decide +kernel)⟩
theorem lw_p15 : lw_okq (⟨"TornPagesModel", "isOn", "(I)Z"⟩, 12) := ⟨⟨by decide +kernel, by decide +kernel⟩, List.mem_of_getElem? (i := 655) (by decide +kernel), List.mem_of_getElem? (i := 710) (by decide +kernel), List.mem_of_getElem? (i := 711) (by decide +kernel)⟩
def lw_privs_1 : List (MethodName × Nat) := [(⟨"TornPages$History", "state", "(I)LTornPages$Desk;"⟩, 3), (⟨"TornPages", "append", "(LTornPages$Draft;)I"⟩, 6), (⟨"TornPages$Text", "takeSign", "(C)V"⟩, 5), (⟨"TornPages$Text", "next", "()I"⟩, 5), (⟨"TornPages$Text", "takeEdge", "(I)V"⟩, 5), (⟨"TornPages$Text", "takeDigit", "(I)I"⟩, 5), (⟨"TornPages", "isScrap", "(I)Z"⟩, 6), (⟨"TornPages", "propertyOnPage", "(II)I"⟩, 6), (⟨"TornPages$Groups", "join", "(LTornPages$Desk;II)V"⟩, 2), (⟨"TornPages$Desk", "verdictOnPage", "(II)I"⟩, 2), (⟨"TornPages$Groups", "countBelow", "(I)I"⟩, 2), (⟨"TornPages$Desk", "isAtBorder", "(II)Z"⟩, 2), (⟨"TornPages", "isPlace", "(I)Z"⟩, 6), (⟨"TornPages", "isFree", "(II)Z"⟩, 6), (⟨"TornPagesModel", "records", "()V"⟩, 12), (⟨"TornPagesModel", "isOn", "(I)Z"⟩, 12)]
theorem lw_r1 : ∀ q ∈ lw_privs_1, lw_okq q := List.forall_mem_cons.mpr ⟨lw_p0, List.forall_mem_cons.mpr ⟨lw_p1, List.forall_mem_cons.mpr ⟨lw_p2, List.forall_mem_cons.mpr ⟨lw_p3, List.forall_mem_cons.mpr ⟨lw_p4, List.forall_mem_cons.mpr ⟨lw_p5, List.forall_mem_cons.mpr ⟨lw_p6, List.forall_mem_cons.mpr ⟨lw_p7, List.forall_mem_cons.mpr ⟨lw_p8, List.forall_mem_cons.mpr ⟨lw_p9, List.forall_mem_cons.mpr ⟨lw_p10, List.forall_mem_cons.mpr ⟨lw_p11, List.forall_mem_cons.mpr ⟨lw_p12, List.forall_mem_cons.mpr ⟨lw_p13, List.forall_mem_cons.mpr ⟨lw_p14, List.forall_mem_cons.mpr ⟨lw_p15, fun _ h => absurd h List.not_mem_nil⟩⟩⟩⟩⟩⟩⟩⟩⟩⟩⟩⟩⟩⟩⟩⟩
theorem lw_p16 : lw_okq (⟨"TornPagesModel", "adds", "()I"⟩, 12) := ⟨⟨by decide +kernel, by decide +kernel⟩, List.mem_of_getElem? (i := 655) (by decide +kernel), List.mem_of_getElem? (i := 718) (by decide +kernel), List.mem_of_getElem? (i := 719) (by decide +kernel)⟩
theorem lw_p17 : lw_okq (⟨"TornPagesModel", "signAt", "(I)I"⟩, 12) := ⟨⟨by decide +kernel, by decide +kernel⟩, List.mem_of_getElem? (i := 655) (by decide +kernel), List.mem_of_getElem? (i := 730) (by decide +kernel), List.mem_of_getElem? (i := 731) (by decide +kernel)⟩
theorem lw_p18 : lw_okq (⟨"TornPagesModel", "isDigit", "(I)Z"⟩, 12) := ⟨⟨by decide +kernel, by decide +kernel⟩, List.mem_of_getElem? (i := 655) (by decide +kernel), List.mem_of_getElem? (i := 734) (by decide +kernel), List.mem_of_getElem? (i := 735) (by decide +kernel)⟩
theorem lw_p19 : lw_okq (⟨"TornPagesModel", "isScrap", "(I)Z"⟩, 12) := ⟨⟨by decide +kernel, by decide +kernel⟩, List.mem_of_getElem? (i := 655) (by decide +kernel), List.mem_of_getElem? (i := 742) (by decide +kernel), List.mem_of_getElem? (i := 743) (by decide +kernel)⟩
theorem lw_p20 : lw_okq (⟨"TornPagesModel", "gathers", "()V"⟩, 12) := ⟨⟨by decide +kernel, by decide +kernel⟩, List.mem_of_getElem? (i := 655) (by decide +kernel), List.mem_of_getElem? (i := 750) (by decide +kernel), List.mem_of_getElem? (i := 751) (by decide +kernel)⟩
theorem lw_p21 : lw_okq (⟨"TornPagesModel", "spreads", "()V"⟩, 12) := ⟨⟨by decide +kernel, by decide +kernel⟩, List.mem_of_getElem? (i := 655) (by decide +kernel), List.mem_of_getElem? (i := 754) (by decide +kernel), List.mem_of_getElem? (i := 755) (by decide +kernel)⟩
theorem lw_p22 : lw_okq (⟨"TornPagesModel", "behind", "(II)I"⟩, 12) := ⟨⟨by decide +kernel, by decide +kernel⟩, List.mem_of_getElem? (i := 655) (by decide +kernel), List.mem_of_getElem? (i := 758) (by decide +kernel), List.mem_of_getElem? (i := 759) (by decide +kernel)⟩
theorem lw_p23 : lw_okq (⟨"TornPagesModel", "scrapAt", "(I)I"⟩, 12) := ⟨⟨by decide +kernel, by decide +kernel⟩, List.mem_of_getElem? (i := 655) (by decide +kernel), List.mem_of_getElem? (i := 762) (by decide +kernel), List.mem_of_getElem? (i := 763) (by decide +kernel)⟩
theorem lw_p24 : lw_okq (⟨"TornPagesModel", "reasonOf", "(IIII)I"⟩, 12) := ⟨⟨by decide +kernel, by decide +kernel⟩, List.mem_of_getElem? (i := 655) (by decide +kernel), List.mem_of_getElem? (i := 766) (by decide +kernel), List.mem_of_getElem? (i := 767) (by decide +kernel)⟩
theorem lw_p25 : lw_okq (⟨"TornPagesModel", "profileOf", "(III)I"⟩, 12) := ⟨⟨by decide +kernel, by decide +kernel⟩, List.mem_of_getElem? (i := 655) (by decide +kernel), List.mem_of_getElem? (i := 770) (by decide +kernel), List.mem_of_getElem? (i := 771) (by decide +kernel)⟩
theorem lw_p26 : lw_okq (⟨"TornPagesModel", "turns", "(II)V"⟩, 12) := ⟨⟨by decide +kernel, by decide +kernel⟩, List.mem_of_getElem? (i := 655) (by decide +kernel), List.mem_of_getElem? (i := 774) (by decide +kernel), List.mem_of_getElem? (i := 775) (by decide +kernel)⟩
theorem lw_p27 : lw_okq (⟨"TornPagesModel", "fits", "(IIIZ)I"⟩, 12) := ⟨⟨by decide +kernel, by decide +kernel⟩, List.mem_of_getElem? (i := 655) (by decide +kernel), List.mem_of_getElem? (i := 781) (by decide +kernel), List.mem_of_getElem? (i := 782) (by decide +kernel)⟩
theorem lw_p28 : lw_okq (⟨"TornPagesModel", "lineOf", "(III)I"⟩, 12) := ⟨⟨by decide +kernel, by decide +kernel⟩, List.mem_of_getElem? (i := 655) (by decide +kernel), List.mem_of_getElem? (i := 789) (by decide +kernel), List.mem_of_getElem? (i := 790) (by decide +kernel)⟩
theorem lw_p29 : lw_okq (⟨"TornPagesModel", "places", "()I"⟩, 12) := ⟨⟨by decide +kernel, by decide +kernel⟩, List.mem_of_getElem? (i := 655) (by decide +kernel), List.mem_of_getElem? (i := 801) (by decide +kernel), List.mem_of_getElem? (i := 802) (by decide +kernel)⟩
theorem lw_p30 : lw_okq (⟨"TornPagesModel", "isLaying", "(III)Z"⟩, 12) := ⟨⟨by decide +kernel, by decide +kernel⟩, List.mem_of_getElem? (i := 655) (by decide +kernel), List.mem_of_getElem? (i := 809) (by decide +kernel), List.mem_of_getElem? (i := 810) (by decide +kernel)⟩
theorem lw_p31 : lw_okq (⟨"TornPagesModel", "isPlace", "(I)Z"⟩, 12) := ⟨⟨by decide +kernel, by decide +kernel⟩, List.mem_of_getElem? (i := 655) (by decide +kernel), List.mem_of_getElem? (i := 813) (by decide +kernel), List.mem_of_getElem? (i := 814) (by decide +kernel)⟩
def lw_privs_2 : List (MethodName × Nat) := [(⟨"TornPagesModel", "adds", "()I"⟩, 12), (⟨"TornPagesModel", "signAt", "(I)I"⟩, 12), (⟨"TornPagesModel", "isDigit", "(I)Z"⟩, 12), (⟨"TornPagesModel", "isScrap", "(I)Z"⟩, 12), (⟨"TornPagesModel", "gathers", "()V"⟩, 12), (⟨"TornPagesModel", "spreads", "()V"⟩, 12), (⟨"TornPagesModel", "behind", "(II)I"⟩, 12), (⟨"TornPagesModel", "scrapAt", "(I)I"⟩, 12), (⟨"TornPagesModel", "reasonOf", "(IIII)I"⟩, 12), (⟨"TornPagesModel", "profileOf", "(III)I"⟩, 12), (⟨"TornPagesModel", "turns", "(II)V"⟩, 12), (⟨"TornPagesModel", "fits", "(IIIZ)I"⟩, 12), (⟨"TornPagesModel", "lineOf", "(III)I"⟩, 12), (⟨"TornPagesModel", "places", "()I"⟩, 12), (⟨"TornPagesModel", "isLaying", "(III)Z"⟩, 12), (⟨"TornPagesModel", "isPlace", "(I)Z"⟩, 12)]
theorem lw_r2 : ∀ q ∈ lw_privs_2, lw_okq q := List.forall_mem_cons.mpr ⟨lw_p16, List.forall_mem_cons.mpr ⟨lw_p17, List.forall_mem_cons.mpr ⟨lw_p18, List.forall_mem_cons.mpr ⟨lw_p19, List.forall_mem_cons.mpr ⟨lw_p20, List.forall_mem_cons.mpr ⟨lw_p21, List.forall_mem_cons.mpr ⟨lw_p22, List.forall_mem_cons.mpr ⟨lw_p23, List.forall_mem_cons.mpr ⟨lw_p24, List.forall_mem_cons.mpr ⟨lw_p25, List.forall_mem_cons.mpr ⟨lw_p26, List.forall_mem_cons.mpr ⟨lw_p27, List.forall_mem_cons.mpr ⟨lw_p28, List.forall_mem_cons.mpr ⟨lw_p29, List.forall_mem_cons.mpr ⟨lw_p30, List.forall_mem_cons.mpr ⟨lw_p31, fun _ h => absurd h List.not_mem_nil⟩⟩⟩⟩⟩⟩⟩⟩⟩⟩⟩⟩⟩⟩⟩⟩
theorem lw_p32 : lw_okq (⟨"TornPagesModel", "canLie", "(III)Z"⟩, 12) := ⟨⟨by decide +kernel, by decide +kernel⟩, List.mem_of_getElem? (i := 655) (by decide +kernel), List.mem_of_getElem? (i := 817) (by decide +kernel), List.mem_of_getElem? (i := 818) (by decide +kernel)⟩
theorem lw_p33 : lw_okq (⟨"TornPagesModel", "puts", "(III)V"⟩, 12) := ⟨⟨by decide +kernel, by decide +kernel⟩, List.mem_of_getElem? (i := 655) (by decide +kernel), List.mem_of_getElem? (i := 821) (by decide +kernel), List.mem_of_getElem? (i := 822) (by decide +kernel)⟩
theorem lw_p34 : lw_okq (⟨"TornPagesModel", "seams", "(II)I"⟩, 12) := ⟨⟨by decide +kernel, by decide +kernel⟩, List.mem_of_getElem? (i := 655) (by decide +kernel), List.mem_of_getElem? (i := 825) (by decide +kernel), List.mem_of_getElem? (i := 826) (by decide +kernel)⟩
theorem lw_p35 : lw_okq (⟨"TornPagesModel", "best", "(I)I"⟩, 12) := ⟨⟨by decide +kernel, by decide +kernel⟩, List.mem_of_getElem? (i := 655) (by decide +kernel), List.mem_of_getElem? (i := 857) (by decide +kernel), List.mem_of_getElem? (i := 858) (by decide +kernel)⟩
theorem lw_p36 : lw_okq (⟨"TornPagesModel", "fillsAll", "()Z"⟩, 12) := ⟨⟨by decide +kernel, by decide +kernel⟩, List.mem_of_getElem? (i := 655) (by decide +kernel), List.mem_of_getElem? (i := 873) (by decide +kernel), List.mem_of_getElem? (i := 874) (by decide +kernel)⟩
def lw_privs_3 : List (MethodName × Nat) := [(⟨"TornPagesModel", "canLie", "(III)Z"⟩, 12), (⟨"TornPagesModel", "puts", "(III)V"⟩, 12), (⟨"TornPagesModel", "seams", "(II)I"⟩, 12), (⟨"TornPagesModel", "best", "(I)I"⟩, 12), (⟨"TornPagesModel", "fillsAll", "()Z"⟩, 12)]
theorem lw_r3 : ∀ q ∈ lw_privs_3, lw_okq q := List.forall_mem_cons.mpr ⟨lw_p32, List.forall_mem_cons.mpr ⟨lw_p33, List.forall_mem_cons.mpr ⟨lw_p34, List.forall_mem_cons.mpr ⟨lw_p35, List.forall_mem_cons.mpr ⟨lw_p36, fun _ h => absurd h List.not_mem_nil⟩⟩⟩⟩⟩
def lw_privs : List (MethodName × Nat) := lw_privs_1 ++ (lw_privs_2 ++ (lw_privs_3))
def lw_tbl : List Cond := k2_sels lw_privs ++ tables_1
theorem lw_privs_ok : ∀ q ∈ lw_privs, lw_okq q := by
  show ∀ q ∈ lw_privs_1 ++ (lw_privs_2 ++ (lw_privs_3)), lw_okq q
  exact List.forall_mem_append.mpr ⟨lw_r1, List.forall_mem_append.mpr ⟨lw_r2, lw_r3⟩⟩
end
section
/-! ===== BEGIN words of one list among another's, by their places ===== -/
theorem goodIn_r {big : List Cond} (ws : List Cond) (ps : List Nat) (hp : ws = ps.filterMap (fun i => big[i]?)) (h : ws.all goodWord = true) : GoodIn big ws := by
  intro w hw
  have h1 := List.all_eq_true.mp h w hw
  rw [hp] at hw
  obtain ⟨i, -, hi⟩ := List.mem_filterMap.mp hw
  have hm : w ∈ big := by first | exact List.mem_of_getElem? hi | exact List.getElem?_mem hi
  exact ⟨hm, good_of_word h1⟩
theorem goodIn_app {big a b : List Cond} (ha : GoodIn big a) (hb : GoodIn big b) : GoodIn big (a ++ b) := fun w h => (List.mem_append.mp h).elim (ha w) (hb w)
theorem goodIn_ca {big a b : List Cond} {c : Cond} (ha : GoodIn big (c :: a)) (hb : GoodIn big b) : GoodIn big (c :: (a ++ b)) := fun w h => (List.mem_cons.mp h).elim (fun e => ha w (List.mem_cons.mpr (Or.inl e))) (fun h => (List.mem_append.mp h).elim (fun h => ha w (List.mem_cons.mpr (Or.inr h))) (hb w))
theorem goodIn_sub {big ws : List Cond} (hm : ∀ w ∈ ws, w ∈ big) (h : ws.all goodWord = true) : GoodIn big ws := fun w hw => ⟨hm w hw, good_of_word (List.all_eq_true.mp h w hw)⟩
/-! ===== END ===== -/

/-! ===== BEGIN printed: names, fields, word lists, decode rows ===== -/
def RX0 : String := "TornPages$Desk"
def TX0 : u_T := fun k => match k with
  | 0 => ("TornPages$Desk", "scraps", "LTornPages$Scraps;", true)
  | _ => ("TornPages$Desk", "page", "LTornPages$Page;", true)
def tyX0 : Nat → FieldType := fun k => match k with
  | 0 => .object "TornPages$Scraps"
  | _ => .object "TornPages$Page"
abbrev wsX00 : List Cond := u_ws RX0 TX0 2
theorem nmX0 : ∀ a, a < 2 → ∀ b, b < 2 → a ≠ b → (TX0 a).2.1 ≠ (TX0 b).2.1 := by decide +kernel
theorem tyX0_ok : ∀ k, k < 2 → parseFieldDescriptor (TX0 k).2.2.1 = some (tyX0 k) := by decide +kernel
abbrev cX0_init : ByteArray := prog_2_method_1_code
def yX0_init : MethodName := ⟨RX0, "<init>", "()V"⟩
abbrev cX0_copy : ByteArray := prog_2_method_2_code
def yX0_copy : MethodName := ⟨RX0, "copy", "(LTornPages$Desk;)V"⟩
abbrev cX0_remove : ByteArray := prog_2_method_3_code
def yX0_remove : MethodName := ⟨RX0, "remove", "(I)V"⟩
abbrev cX0_countLying : ByteArray := prog_2_method_4_code
def yX0_countLying : MethodName := ⟨RX0, "countLying", "()I"⟩
abbrev cX0_neighbour : ByteArray := prog_2_method_5_code
def yX0_neighbour : MethodName := ⟨RX0, "neighbour", "(III)I"⟩
abbrev cX0_verdict : ByteArray := prog_2_method_6_code
def yX0_verdict : MethodName := ⟨RX0, "verdict", "(IIII)I"⟩
abbrev cX0_canLie : ByteArray := prog_2_method_7_code
def yX0_canLie : MethodName := ⟨RX0, "canLie", "(III)Z"⟩
abbrev cX0_countWays : ByteArray := prog_2_method_8_code
def yX0_countWays : MethodName := ⟨RX0, "countWays", "(II)I"⟩
abbrev cX0_seamsAt : ByteArray := prog_2_method_9_code
def yX0_seamsAt : MethodName := ⟨RX0, "seamsAt", "(II)I"⟩
abbrev cX0_countFits : ByteArray := prog_2_method_10_code
def yX0_countFits : MethodName := ⟨RX0, "countFits", "(I)I"⟩
abbrev cX0_countFaults : ByteArray := prog_2_method_11_code
def yX0_countFaults : MethodName := ⟨RX0, "countFaults", "(I)I"⟩
abbrev cX0_verdictOnPage : ByteArray := prog_2_method_12_code
def yX0_verdictOnPage : MethodName := ⟨RX0, "verdictOnPage", "(II)I"⟩
abbrev cX0_neighbourOnPage : ByteArray := prog_2_method_13_code
def yX0_neighbourOnPage : MethodName := ⟨RX0, "neighbourOnPage", "(II)I"⟩
abbrev cX0_isJoined : ByteArray := prog_2_method_14_code
def yX0_isJoined : MethodName := ⟨RX0, "isJoined", "(II)Z"⟩
abbrev cX0_countSeams : ByteArray := prog_2_method_15_code
def yX0_countSeams : MethodName := ⟨RX0, "countSeams", "()I"⟩
abbrev cX0_countFittingSeams : ByteArray := prog_2_method_16_code
def yX0_countFittingSeams : MethodName := ⟨RX0, "countFittingSeams", "()I"⟩
abbrev cX0_countBorderEdges : ByteArray := prog_2_method_17_code
def yX0_countBorderEdges : MethodName := ⟨RX0, "countBorderEdges", "(I)I"⟩
abbrev cX0_isAtBorder : ByteArray := prog_2_method_18_code
def yX0_isAtBorder : MethodName := ⟨RX0, "isAtBorder", "(II)Z"⟩
abbrev cX0_bestPlace : ByteArray := prog_2_method_19_code
def yX0_bestPlace : MethodName := ⟨RX0, "bestPlace", "(I)I"⟩
abbrev cX0_layNext : ByteArray := prog_2_method_20_code
def yX0_layNext : MethodName := ⟨RX0, "layNext", "()Z"⟩
def RX1 : String := "TornPages$Draft"
def TX1 : u_T := fun k => match k with
  | 0 => ("TornPages$Draft", "profiles", "LTornPages$Row;", true)
  | 1 => ("TornPages$Draft", "lines", "LTornPages$Row;", true)
  | _ => ("TornPages$Draft", "kind", "I", false)
def tyX1 : Nat → FieldType := fun k => match k with
  | 0 => .object "TornPages$Row"
  | 1 => .object "TornPages$Row"
  | _ => .int
abbrev wsX10 : List Cond := u_ws RX1 TX1 3
theorem nmX1 : ∀ a, a < 3 → ∀ b, b < 3 → a ≠ b → (TX1 a).2.1 ≠ (TX1 b).2.1 := by decide +kernel
theorem tyX1_ok : ∀ k, k < 3 → parseFieldDescriptor (TX1 k).2.2.1 = some (tyX1 k) := by decide +kernel
abbrev cX1_init : ByteArray := prog_3_method_1_code
def yX1_init : MethodName := ⟨RX1, "<init>", "()V"⟩
abbrev cX1_setEdge : ByteArray := prog_3_method_2_code
def yX1_setEdge : MethodName := ⟨RX1, "setEdge", "(III)V"⟩
abbrev cX1_setKind : ByteArray := prog_3_method_3_code
def yX1_setKind : MethodName := ⟨RX1, "setKind", "(I)V"⟩
abbrev cX1_kind : ByteArray := prog_3_method_4_code
def yX1_kind : MethodName := ⟨RX1, "kind", "()I"⟩
abbrev cX1_profile : ByteArray := prog_3_method_5_code
def yX1_profile : MethodName := ⟨RX1, "profile", "(II)I"⟩
abbrev cX1_line : ByteArray := prog_3_method_6_code
def yX1_line : MethodName := ⟨RX1, "line", "(II)I"⟩
abbrev cX1_origin : ByteArray := prog_3_method_7_code
def yX1_origin : MethodName := ⟨RX1, "origin", "(II)I"⟩
abbrev cX1_unturned : ByteArray := prog_3_method_8_code
def yX1_unturned : MethodName := ⟨RX1, "unturned", "(II)I"⟩
abbrev cX1_isReversed : ByteArray := prog_3_method_9_code
def yX1_isReversed : MethodName := ⟨RX1, "isReversed", "(II)Z"⟩
abbrev cX1_isToldClockwise : ByteArray := prog_3_method_10_code
def yX1_isToldClockwise : MethodName := ⟨RX1, "isToldClockwise", "(I)Z"⟩
abbrev cX1_reverse : ByteArray := prog_3_method_11_code
def yX1_reverse : MethodName := ⟨RX1, "reverse", "(I)I"⟩
def RX2 : String := "TornPages$Groups"
def TX2 : u_T := fun k => match k with
  | 0 => ("TornPages$Groups", "lowest", "LTornPages$Row;", true)
  | _ => ("TornPages$Groups", "scraps", "I", false)
def tyX2 : Nat → FieldType := fun k => match k with
  | 0 => .object "TornPages$Row"
  | _ => .int
abbrev wsX20 : List Cond := u_ws RX2 TX2 2
theorem nmX2 : ∀ a, a < 2 → ∀ b, b < 2 → a ≠ b → (TX2 a).2.1 ≠ (TX2 b).2.1 := by decide +kernel
theorem tyX2_ok : ∀ k, k < 2 → parseFieldDescriptor (TX2 k).2.2.1 = some (tyX2 k) := by decide +kernel
abbrev cX2_init : ByteArray := prog_4_method_1_code
def yX2_init : MethodName := ⟨RX2, "<init>", "()V"⟩
abbrev cX2_gather : ByteArray := prog_4_method_2_code
def yX2_gather : MethodName := ⟨RX2, "gather", "(LTornPages$Desk;)V"⟩
abbrev cX2_join : ByteArray := prog_4_method_3_code
def yX2_join : MethodName := ⟨RX2, "join", "(LTornPages$Desk;II)V"⟩
abbrev cX2_size : ByteArray := prog_4_method_4_code
def yX2_size : MethodName := ⟨RX2, "size", "()I"⟩
abbrev cX2_groupOf : ByteArray := prog_4_method_5_code
def yX2_groupOf : MethodName := ⟨RX2, "groupOf", "(I)I"⟩
abbrev cX2_countBelow : ByteArray := prog_4_method_6_code
def yX2_countBelow : MethodName := ⟨RX2, "countBelow", "(I)I"⟩
abbrev cX2_scrapOf : ByteArray := prog_4_method_7_code
def yX2_scrapOf : MethodName := ⟨RX2, "scrapOf", "(II)I"⟩
def RX3 : String := "TornPages$History"
def TX3 : u_T := fun k => match k with
  | 0 => ("TornPages$History", "states", "[LTornPages$Desk;", true)
  | 1 => ("TornPages$History", "oldest", "I", false)
  | _ => ("TornPages$History", "size", "I", false)
def tyX3 : Nat → FieldType := fun k => match k with
  | 0 => .array (.object "TornPages$Desk")
  | 1 => .int
  | _ => .int
abbrev wsX30 : List Cond := u_ws RX3 TX3 3
theorem nmX3 : ∀ a, a < 3 → ∀ b, b < 3 → a ≠ b → (TX3 a).2.1 ≠ (TX3 b).2.1 := by decide +kernel
theorem tyX3_ok : ∀ k, k < 3 → parseFieldDescriptor (TX3 k).2.2.1 = some (tyX3 k) := by decide +kernel
abbrev cX3_init : ByteArray := prog_5_method_1_code
def yX3_init : MethodName := ⟨RX3, "<init>", "()V"⟩
abbrev cX3_size : ByteArray := prog_5_method_2_code
def yX3_size : MethodName := ⟨RX3, "size", "()I"⟩
abbrev cX3_keep : ByteArray := prog_5_method_3_code
def yX3_keep : MethodName := ⟨RX3, "keep", "(LTornPages$Desk;)V"⟩
abbrev cX3_restore : ByteArray := prog_5_method_4_code
def yX3_restore : MethodName := ⟨RX3, "restore", "(LTornPages$Desk;)V"⟩
abbrev cX3_state : ByteArray := prog_5_method_5_code
def yX3_state : MethodName := ⟨RX3, "state", "(I)LTornPages$Desk;"⟩
def RX4 : String := "TornPages$Page"
def TX4 : u_T := fun k => match k with
  | 0 => ("TornPages$Page", "places", "LTornPages$Row;", true)
  | 1 => ("TornPages$Page", "orientations", "LTornPages$Row;", true)
  | 2 => ("TornPages$Page", "lying", "LTornPages$Row;", true)
  | 3 => ("TornPages$Page", "width", "I", false)
  | _ => ("TornPages$Page", "height", "I", false)
def tyX4 : Nat → FieldType := fun k => match k with
  | 0 => .object "TornPages$Row"
  | 1 => .object "TornPages$Row"
  | 2 => .object "TornPages$Row"
  | 3 => .int
  | _ => .int
abbrev wsX40 : List Cond := u_ws RX4 TX4 5
theorem nmX4 : ∀ a, a < 5 → ∀ b, b < 5 → a ≠ b → (TX4 a).2.1 ≠ (TX4 b).2.1 := by decide +kernel
theorem tyX4_ok : ∀ k, k < 5 → parseFieldDescriptor (TX4 k).2.2.1 = some (tyX4 k) := by decide +kernel
abbrev cX4_init : ByteArray := prog_6_method_1_code
def yX4_init : MethodName := ⟨RX4, "<init>", "()V"⟩
abbrev cX4_width : ByteArray := prog_6_method_2_code
def yX4_width : MethodName := ⟨RX4, "width", "()I"⟩
abbrev cX4_height : ByteArray := prog_6_method_3_code
def yX4_height : MethodName := ⟨RX4, "height", "()I"⟩
abbrev cX4_places : ByteArray := prog_6_method_4_code
def yX4_places : MethodName := ⟨RX4, "places", "()I"⟩
abbrev cX4_lies : ByteArray := prog_6_method_5_code
def yX4_lies : MethodName := ⟨RX4, "lies", "(I)Z"⟩
abbrev cX4_placeOf : ByteArray := prog_6_method_6_code
def yX4_placeOf : MethodName := ⟨RX4, "placeOf", "(I)I"⟩
abbrev cX4_orientationOf : ByteArray := prog_6_method_7_code
def yX4_orientationOf : MethodName := ⟨RX4, "orientationOf", "(I)I"⟩
abbrev cX4_scrapAt : ByteArray := prog_6_method_8_code
def yX4_scrapAt : MethodName := ⟨RX4, "scrapAt", "(I)I"⟩
abbrev cX4_clear : ByteArray := prog_6_method_9_code
def yX4_clear : MethodName := ⟨RX4, "clear", "(II)V"⟩
abbrev cX4_put : ByteArray := prog_6_method_10_code
def yX4_put : MethodName := ⟨RX4, "put", "(III)V"⟩
abbrev cX4_take : ByteArray := prog_6_method_11_code
def yX4_take : MethodName := ⟨RX4, "take", "(I)V"⟩
abbrev cX4_remove : ByteArray := prog_6_method_12_code
def yX4_remove : MethodName := ⟨RX4, "remove", "(I)V"⟩
abbrev cX4_copy : ByteArray := prog_6_method_13_code
def yX4_copy : MethodName := ⟨RX4, "copy", "(LTornPages$Page;)V"⟩
abbrev cX4_behind : ByteArray := prog_6_method_14_code
def yX4_behind : MethodName := ⟨RX4, "behind", "(II)I"⟩
def RX5 : String := "TornPages$Row"
def TX5 : u_T := fun k => match k with
  | _ => ("TornPages$Row", "numbers", "[I", true)
def tyX5 : Nat → FieldType := fun k => match k with
  | _ => .array .int
abbrev wsX50 : List Cond := u_ws RX5 TX5 1
theorem nmX5 : ∀ a, a < 1 → ∀ b, b < 1 → a ≠ b → (TX5 a).2.1 ≠ (TX5 b).2.1 := by decide +kernel
theorem tyX5_ok : ∀ k, k < 1 → parseFieldDescriptor (TX5 k).2.2.1 = some (tyX5 k) := by decide +kernel
abbrev cX5_init : ByteArray := prog_7_method_1_code
def yX5_init : MethodName := ⟨RX5, "<init>", "(I)V"⟩
abbrev cX5_get : ByteArray := prog_7_method_2_code
def yX5_get : MethodName := ⟨RX5, "get", "(I)I"⟩
abbrev cX5_set : ByteArray := prog_7_method_3_code
def yX5_set : MethodName := ⟨RX5, "set", "(II)V"⟩
abbrev cX5_setAll : ByteArray := prog_7_method_4_code
def yX5_setAll : MethodName := ⟨RX5, "setAll", "(I)V"⟩
abbrev cX5_copy : ByteArray := prog_7_method_5_code
def yX5_copy : MethodName := ⟨RX5, "copy", "(LTornPages$Row;)V"⟩
abbrev cX5_cut : ByteArray := prog_7_method_6_code
def yX5_cut : MethodName := ⟨RX5, "cut", "(II)V"⟩
def RX6 : String := "TornPages$Scraps"
def TX6 : u_T := fun k => match k with
  | 0 => ("TornPages$Scraps", "kinds", "LTornPages$Row;", true)
  | 1 => ("TornPages$Scraps", "profiles", "LTornPages$Row;", true)
  | 2 => ("TornPages$Scraps", "lines", "LTornPages$Row;", true)
  | _ => ("TornPages$Scraps", "size", "I", false)
def tyX6 : Nat → FieldType := fun k => match k with
  | 0 => .object "TornPages$Row"
  | 1 => .object "TornPages$Row"
  | 2 => .object "TornPages$Row"
  | _ => .int
abbrev wsX60 : List Cond := u_ws RX6 TX6 4
theorem nmX6 : ∀ a, a < 4 → ∀ b, b < 4 → a ≠ b → (TX6 a).2.1 ≠ (TX6 b).2.1 := by decide +kernel
theorem tyX6_ok : ∀ k, k < 4 → parseFieldDescriptor (TX6 k).2.2.1 = some (tyX6 k) := by decide +kernel
abbrev cX6_init : ByteArray := prog_8_method_1_code
def yX6_init : MethodName := ⟨RX6, "<init>", "()V"⟩
abbrev cX6_size : ByteArray := prog_8_method_2_code
def yX6_size : MethodName := ⟨RX6, "size", "()I"⟩
abbrev cX6_kind : ByteArray := prog_8_method_3_code
def yX6_kind : MethodName := ⟨RX6, "kind", "(I)I"⟩
abbrev cX6_profile : ByteArray := prog_8_method_4_code
def yX6_profile : MethodName := ⟨RX6, "profile", "(III)I"⟩
abbrev cX6_line : ByteArray := prog_8_method_5_code
def yX6_line : MethodName := ⟨RX6, "line", "(III)I"⟩
abbrev cX6_append : ByteArray := prog_8_method_6_code
def yX6_append : MethodName := ⟨RX6, "append", "(LTornPages$Draft;)V"⟩
abbrev cX6_remove : ByteArray := prog_8_method_7_code
def yX6_remove : MethodName := ⟨RX6, "remove", "(I)V"⟩
abbrev cX6_copy : ByteArray := prog_8_method_8_code
def yX6_copy : MethodName := ⟨RX6, "copy", "(LTornPages$Scraps;)V"⟩
def RX7 : String := "TornPages$Text"
def TX7 : u_T := fun k => match k with
  | 0 => ("TornPages$Text", "signs", "LTornPages$Row;", true)
  | 1 => ("TornPages$Text", "draft", "LTornPages$Draft;", true)
  | 2 => ("TornPages$Text", "length", "I", false)
  | 3 => ("TornPages$Text", "position", "I", false)
  | _ => ("TornPages$Text", "sound", "Z", false)
def tyX7 : Nat → FieldType := fun k => match k with
  | 0 => .object "TornPages$Row"
  | 1 => .object "TornPages$Draft"
  | 2 => .int
  | 3 => .int
  | _ => .boolean
abbrev wsX70 : List Cond := u_ws RX7 TX7 5
theorem nmX7 : ∀ a, a < 5 → ∀ b, b < 5 → a ≠ b → (TX7 a).2.1 ≠ (TX7 b).2.1 := by decide +kernel
theorem tyX7_ok : ∀ k, k < 5 → parseFieldDescriptor (TX7 k).2.2.1 = some (tyX7 k) := by decide +kernel
abbrev cX7_init : ByteArray := prog_9_method_1_code
def yX7_init : MethodName := ⟨RX7, "<init>", "()V"⟩
abbrev cX7_length : ByteArray := prog_9_method_2_code
def yX7_length : MethodName := ⟨RX7, "length", "()I"⟩
abbrev cX7_position : ByteArray := prog_9_method_3_code
def yX7_position : MethodName := ⟨RX7, "position", "()I"⟩
abbrev cX7_isSound : ByteArray := prog_9_method_4_code
def yX7_isSound : MethodName := ⟨RX7, "isSound", "()Z"⟩
abbrev cX7_draft : ByteArray := prog_9_method_5_code
def yX7_draft : MethodName := ⟨RX7, "draft", "()LTornPages$Draft;"⟩
abbrev cX7_append : ByteArray := prog_9_method_6_code
def yX7_append : MethodName := ⟨RX7, "append", "(I)V"⟩
abbrev cX7_clear : ByteArray := prog_9_method_7_code
def yX7_clear : MethodName := ⟨RX7, "clear", "()V"⟩
abbrev cX7_read : ByteArray := prog_9_method_8_code
def yX7_read : MethodName := ⟨RX7, "read", "()V"⟩
abbrev cX7_takeEdge : ByteArray := prog_9_method_9_code
def yX7_takeEdge : MethodName := ⟨RX7, "takeEdge", "(I)V"⟩
abbrev cX7_takeSign : ByteArray := prog_9_method_10_code
def yX7_takeSign : MethodName := ⟨RX7, "takeSign", "(C)V"⟩
abbrev cX7_takeDigit : ByteArray := prog_9_method_11_code
def yX7_takeDigit : MethodName := ⟨RX7, "takeDigit", "(I)I"⟩
abbrev cX7_next : ByteArray := prog_9_method_12_code
def yX7_next : MethodName := ⟨RX7, "next", "()I"⟩
def RX8 : String := "TornPages"
def TX8 : u_T := fun k => match k with
  | 0 => ("TornPages", "desk", "LTornPages$Desk;", true)
  | 1 => ("TornPages", "trial", "LTornPages$Desk;", true)
  | 2 => ("TornPages", "history", "LTornPages$History;", true)
  | 3 => ("TornPages", "groups", "LTornPages$Groups;", true)
  | 4 => ("TornPages", "text", "LTornPages$Text;", true)
  | _ => ("TornPages", "draft", "LTornPages$Draft;", true)
def tyX8 : Nat → FieldType := fun k => match k with
  | 0 => .object "TornPages$Desk"
  | 1 => .object "TornPages$Desk"
  | 2 => .object "TornPages$History"
  | 3 => .object "TornPages$Groups"
  | 4 => .object "TornPages$Text"
  | _ => .object "TornPages$Draft"
abbrev wsX80 : List Cond := u_ws RX8 TX8 6
theorem nmX8 : ∀ a, a < 6 → ∀ b, b < 6 → a ≠ b → (TX8 a).2.1 ≠ (TX8 b).2.1 := by decide +kernel
theorem tyX8_ok : ∀ k, k < 6 → parseFieldDescriptor (TX8 k).2.2.1 = some (tyX8 k) := by decide +kernel
abbrev cX8_init : ByteArray := prog_1_method_1_code
def yX8_init : MethodName := ⟨RX8, "<init>", "()V"⟩
abbrev cX8_reset : ByteArray := prog_1_method_2_code
def yX8_reset : MethodName := ⟨RX8, "reset", "(II)I"⟩
abbrev cX8_addScrap : ByteArray := prog_1_method_3_code
def yX8_addScrap : MethodName := ⟨RX8, "addScrap", "(IIIII)I"⟩
abbrev cX8_add : ByteArray := prog_1_method_4_code
def yX8_add : MethodName := ⟨RX8, "add", "()I"⟩
abbrev cX8_removeScrap : ByteArray := prog_1_method_5_code
def yX8_removeScrap : MethodName := ⟨RX8, "removeScrap", "(I)I"⟩
abbrev cX8_scrap : ByteArray := prog_1_method_6_code
def yX8_scrap : MethodName := ⟨RX8, "scrap", "(II)I"⟩
abbrev cX8_edge : ByteArray := prog_1_method_7_code
def yX8_edge : MethodName := ⟨RX8, "edge", "(IIII)I"⟩
abbrev cX8_undo : ByteArray := prog_1_method_8_code
def yX8_undo : MethodName := ⟨RX8, "undo", "()I"⟩
abbrev cX8_count : ByteArray := prog_1_method_9_code
def yX8_count : MethodName := ⟨RX8, "count", "(I)I"⟩
abbrev cX8_lay : ByteArray := prog_1_method_10_code
def yX8_lay : MethodName := ⟨RX8, "lay", "(III)I"⟩
abbrev cX8_force : ByteArray := prog_1_method_11_code
def yX8_force : MethodName := ⟨RX8, "force", "(III)I"⟩
abbrev cX8_lift : ByteArray := prog_1_method_12_code
def yX8_lift : MethodName := ⟨RX8, "lift", "(I)I"⟩
abbrev cX8_turn : ByteArray := prog_1_method_13_code
def yX8_turn : MethodName := ⟨RX8, "turn", "(II)I"⟩
abbrev cX8_at : ByteArray := prog_1_method_14_code
def yX8_at : MethodName := ⟨RX8, "at", "(I)I"⟩
abbrev cX8_reason : ByteArray := prog_1_method_15_code
def yX8_reason : MethodName := ⟨RX8, "reason", "(II)I"⟩
abbrev cX8_ways : ByteArray := prog_1_method_16_code
def yX8_ways : MethodName := ⟨RX8, "ways", "(II)I"⟩
abbrev cX8_bestFor : ByteArray := prog_1_method_17_code
def yX8_bestFor : MethodName := ⟨RX8, "bestFor", "(I)I"⟩
abbrev cX8_fill : ByteArray := prog_1_method_18_code
def yX8_fill : MethodName := ⟨RX8, "fill", "()I"⟩
abbrev cX8_member : ByteArray := prog_1_method_19_code
def yX8_member : MethodName := ⟨RX8, "member", "(II)I"⟩
abbrev cX8_canFill : ByteArray := prog_1_method_20_code
def yX8_canFill : MethodName := ⟨RX8, "canFill", "()I"⟩
abbrev cX8_type : ByteArray := prog_1_method_21_code
def yX8_type : MethodName := ⟨RX8, "type", "(I)I"⟩
abbrev cX8_clearText : ByteArray := prog_1_method_22_code
def yX8_clearText : MethodName := ⟨RX8, "clearText", "()I"⟩
abbrev cX8_fault : ByteArray := prog_1_method_23_code
def yX8_fault : MethodName := ⟨RX8, "fault", "()I"⟩
abbrev cX8_append : ByteArray := prog_1_method_24_code
def yX8_append : MethodName := ⟨RX8, "append", "(LTornPages$Draft;)I"⟩
abbrev cX8_propertyOnPage : ByteArray := prog_1_method_25_code
def yX8_propertyOnPage : MethodName := ⟨RX8, "propertyOnPage", "(II)I"⟩
abbrev cX8_isFree : ByteArray := prog_1_method_26_code
def yX8_isFree : MethodName := ⟨RX8, "isFree", "(II)Z"⟩
abbrev cX8_isScrap : ByteArray := prog_1_method_27_code
def yX8_isScrap : MethodName := ⟨RX8, "isScrap", "(I)Z"⟩
abbrev cX8_isPlace : ByteArray := prog_1_method_28_code
def yX8_isPlace : MethodName := ⟨RX8, "isPlace", "(I)Z"⟩
abbrev cX8_isOrientation : ByteArray := prog_1_method_29_code
def yX8_isOrientation : MethodName := ⟨RX8, "isOrientation", "(I)Z"⟩
abbrev cX8_isEdge : ByteArray := prog_1_method_30_code
def yX8_isEdge : MethodName := ⟨RX8, "isEdge", "(I)Z"⟩
abbrev cX8_isProfile : ByteArray := prog_1_method_31_code
def yX8_isProfile : MethodName := ⟨RX8, "isProfile", "(I)Z"⟩
abbrev cX8_isWithin : ByteArray := prog_1_method_32_code
def yX8_isWithin : MethodName := ⟨RX8, "isWithin", "(III)Z"⟩
abbrev cX8_fillsFrom : ByteArray := prog_1_method_33_code
def yX8_fillsFrom : MethodName := ⟨RX8, "fillsFrom", "(LTornPages$Desk;I)Z"⟩
def RX9 : String := "TornPagesModel"
def TX9 : u_T := fun k => match k with
  | 0 => ("TornPagesModel", "d", "[I", true)
  | 1 => ("TornPagesModel", "was", "[I", true)
  | 2 => ("TornPagesModel", "states", "I", false)
  | 3 => ("TornPagesModel", "text", "[C", true)
  | 4 => ("TornPagesModel", "typed", "I", false)
  | 5 => ("TornPagesModel", "edges", "[I", true)
  | 6 => ("TornPagesModel", "lines", "[I", true)
  | 7 => ("TornPagesModel", "read", "[I", true)
  | 8 => ("TornPagesModel", "group", "[I", true)
  | 9 => ("TornPagesModel", "groups", "I", false)
  | 10 => ("TornPagesModel", "tried", "[I", true)
  | _ => ("TornPagesModel", "aside", "[I", true)
def tyX9 : Nat → FieldType := fun k => match k with
  | 0 => .array .int
  | 1 => .array .int
  | 2 => .int
  | 3 => .array .char
  | 4 => .int
  | 5 => .array .int
  | 6 => .array .int
  | 7 => .array .int
  | 8 => .array .int
  | 9 => .int
  | 10 => .array .int
  | _ => .array .int
abbrev wsX90 : List Cond := u_ws RX9 TX9 12
theorem nmX9 : ∀ a, a < 12 → ∀ b, b < 12 → a ≠ b → (TX9 a).2.1 ≠ (TX9 b).2.1 := by decide +kernel
theorem tyX9_ok : ∀ k, k < 12 → parseFieldDescriptor (TX9 k).2.2.1 = some (tyX9 k) := by decide +kernel
abbrev cX9_init : ByteArray := prog_11_method_1_code
def yX9_init : MethodName := ⟨RX9, "<init>", "()V"⟩
abbrev cX9_in : ByteArray := prog_11_method_2_code
def yX9_in : MethodName := ⟨RX9, "in", "(III)Z"⟩
abbrev cX9_isScrap : ByteArray := prog_11_method_3_code
def yX9_isScrap : MethodName := ⟨RX9, "isScrap", "(I)Z"⟩
abbrev cX9_places : ByteArray := prog_11_method_4_code
def yX9_places : MethodName := ⟨RX9, "places", "()I"⟩
abbrev cX9_isPlace : ByteArray := prog_11_method_5_code
def yX9_isPlace : MethodName := ⟨RX9, "isPlace", "(I)Z"⟩
abbrev cX9_records : ByteArray := prog_11_method_6_code
def yX9_records : MethodName := ⟨RX9, "records", "()V"⟩
abbrev cX9_reversed : ByteArray := prog_11_method_7_code
def yX9_reversed : MethodName := ⟨RX9, "reversed", "(I)I"⟩
abbrev cX9_turns : ByteArray := prog_11_method_8_code
def yX9_turns : MethodName := ⟨RX9, "turns", "(II)V"⟩
abbrev cX9_profileOf : ByteArray := prog_11_method_9_code
def yX9_profileOf : MethodName := ⟨RX9, "profileOf", "(III)I"⟩
abbrev cX9_lineOf : ByteArray := prog_11_method_10_code
def yX9_lineOf : MethodName := ⟨RX9, "lineOf", "(III)I"⟩
abbrev cX9_behind : ByteArray := prog_11_method_11_code
def yX9_behind : MethodName := ⟨RX9, "behind", "(II)I"⟩
abbrev cX9_scrapAt : ByteArray := prog_11_method_12_code
def yX9_scrapAt : MethodName := ⟨RX9, "scrapAt", "(I)I"⟩
abbrev cX9_reasonOf : ByteArray := prog_11_method_13_code
def yX9_reasonOf : MethodName := ⟨RX9, "reasonOf", "(IIII)I"⟩
abbrev cX9_fits : ByteArray := prog_11_method_14_code
def yX9_fits : MethodName := ⟨RX9, "fits", "(IIIZ)I"⟩
abbrev cX9_seams : ByteArray := prog_11_method_15_code
def yX9_seams : MethodName := ⟨RX9, "seams", "(II)I"⟩
abbrev cX9_isOn : ByteArray := prog_11_method_16_code
def yX9_isOn : MethodName := ⟨RX9, "isOn", "(I)Z"⟩
abbrev cX9_reset : ByteArray := prog_11_method_17_code
def yX9_reset : MethodName := ⟨RX9, "reset", "(II)I"⟩
abbrev cX9_adds : ByteArray := prog_11_method_18_code
def yX9_adds : MethodName := ⟨RX9, "adds", "()I"⟩
abbrev cX9_addScrap : ByteArray := prog_11_method_19_code
def yX9_addScrap : MethodName := ⟨RX9, "addScrap", "(IIIII)I"⟩
abbrev cX9_add : ByteArray := prog_11_method_20_code
def yX9_add : MethodName := ⟨RX9, "add", "()I"⟩
abbrev cX9_removeScrap : ByteArray := prog_11_method_21_code
def yX9_removeScrap : MethodName := ⟨RX9, "removeScrap", "(I)I"⟩
abbrev cX9_scrap : ByteArray := prog_11_method_22_code
def yX9_scrap : MethodName := ⟨RX9, "scrap", "(II)I"⟩
abbrev cX9_edge : ByteArray := prog_11_method_23_code
def yX9_edge : MethodName := ⟨RX9, "edge", "(IIII)I"⟩
abbrev cX9_undo : ByteArray := prog_11_method_24_code
def yX9_undo : MethodName := ⟨RX9, "undo", "()I"⟩
abbrev cX9_gathers : ByteArray := prog_11_method_25_code
def yX9_gathers : MethodName := ⟨RX9, "gathers", "()V"⟩
abbrev cX9_spreads : ByteArray := prog_11_method_26_code
def yX9_spreads : MethodName := ⟨RX9, "spreads", "()V"⟩
abbrev cX9_count : ByteArray := prog_11_method_27_code
def yX9_count : MethodName := ⟨RX9, "count", "(I)I"⟩
abbrev cX9_puts : ByteArray := prog_11_method_28_code
def yX9_puts : MethodName := ⟨RX9, "puts", "(III)V"⟩
abbrev cX9_canLie : ByteArray := prog_11_method_29_code
def yX9_canLie : MethodName := ⟨RX9, "canLie", "(III)Z"⟩
abbrev cX9_isLaying : ByteArray := prog_11_method_30_code
def yX9_isLaying : MethodName := ⟨RX9, "isLaying", "(III)Z"⟩
abbrev cX9_lay : ByteArray := prog_11_method_31_code
def yX9_lay : MethodName := ⟨RX9, "lay", "(III)I"⟩
abbrev cX9_force : ByteArray := prog_11_method_32_code
def yX9_force : MethodName := ⟨RX9, "force", "(III)I"⟩
abbrev cX9_lift : ByteArray := prog_11_method_33_code
def yX9_lift : MethodName := ⟨RX9, "lift", "(I)I"⟩
abbrev cX9_turn : ByteArray := prog_11_method_34_code
def yX9_turn : MethodName := ⟨RX9, "turn", "(II)I"⟩
abbrev cX9_at : ByteArray := prog_11_method_35_code
def yX9_at : MethodName := ⟨RX9, "at", "(I)I"⟩
abbrev cX9_reason : ByteArray := prog_11_method_36_code
def yX9_reason : MethodName := ⟨RX9, "reason", "(II)I"⟩
abbrev cX9_ways : ByteArray := prog_11_method_37_code
def yX9_ways : MethodName := ⟨RX9, "ways", "(II)I"⟩
abbrev cX9_best : ByteArray := prog_11_method_38_code
def yX9_best : MethodName := ⟨RX9, "best", "(I)I"⟩
abbrev cX9_bestFor : ByteArray := prog_11_method_39_code
def yX9_bestFor : MethodName := ⟨RX9, "bestFor", "(I)I"⟩
abbrev cX9_fill : ByteArray := prog_11_method_40_code
def yX9_fill : MethodName := ⟨RX9, "fill", "()I"⟩
abbrev cX9_member : ByteArray := prog_11_method_41_code
def yX9_member : MethodName := ⟨RX9, "member", "(II)I"⟩
abbrev cX9_fillsAll : ByteArray := prog_11_method_42_code
def yX9_fillsAll : MethodName := ⟨RX9, "fillsAll", "()Z"⟩
abbrev cX9_canFill : ByteArray := prog_11_method_43_code
def yX9_canFill : MethodName := ⟨RX9, "canFill", "()I"⟩
abbrev cX9_type : ByteArray := prog_11_method_44_code
def yX9_type : MethodName := ⟨RX9, "type", "(I)I"⟩
abbrev cX9_clearText : ByteArray := prog_11_method_45_code
def yX9_clearText : MethodName := ⟨RX9, "clearText", "()I"⟩
abbrev cX9_signAt : ByteArray := prog_11_method_46_code
def yX9_signAt : MethodName := ⟨RX9, "signAt", "(I)I"⟩
abbrev cX9_isDigit : ByteArray := prog_11_method_47_code
def yX9_isDigit : MethodName := ⟨RX9, "isDigit", "(I)Z"⟩
abbrev cX9_fault : ByteArray := prog_11_method_48_code
def yX9_fault : MethodName := ⟨RX9, "fault", "()I"⟩
def RJ9 : String := "java/lang/Math"
def TJ9 : u_T := fun k => match k with
  | _ => ("", "", "", false)
def tyJ9 : Nat → FieldType := fun k => match k with
  | _ => .int
abbrev wsJ90 : List Cond := u_ws RJ9 TJ9 0
theorem nmJ9 : ∀ a, a < 0 → ∀ b, b < 0 → a ≠ b → (TJ9 a).2.1 ≠ (TJ9 b).2.1 := by decide +kernel
theorem tyJ9_ok : ∀ k, k < 0 → parseFieldDescriptor (TJ9 k).2.2.1 = some (tyJ9 k) := by decide +kernel
abbrev cJ9_max_7cf53 : ByteArray := prog_12_method_65_code
def yJ9_max_7cf53 : MethodName := ⟨RJ9, "max", "(II)I"⟩
abbrev cJ9_min_7cf53 : ByteArray := prog_12_method_69_code
def yJ9_min_7cf53 : MethodName := ⟨RJ9, "min", "(II)I"⟩
def RJ10 : String := "java/lang/System"
def TJ10 : u_T := fun k => match k with
  | _ => ("", "", "", false)
def tyJ10 : Nat → FieldType := fun k => match k with
  | _ => .int
abbrev wsJ100 : List Cond := u_ws RJ10 TJ10 0
theorem nmJ10 : ∀ a, a < 0 → ∀ b, b < 0 → a ≠ b → (TJ10 a).2.1 ≠ (TJ10 b).2.1 := by decide +kernel
theorem tyJ10_ok : ∀ k, k < 0 → parseFieldDescriptor (TJ10 k).2.2.1 = some (tyJ10 k) := by decide +kernel
def RJ7 : String := "java/util/Arrays"
def TJ7 : u_T := fun k => match k with
  | _ => ("", "", "", false)
def tyJ7 : Nat → FieldType := fun k => match k with
  | _ => .int
abbrev wsJ70 : List Cond := u_ws RJ7 TJ7 0
theorem nmJ7 : ∀ a, a < 0 → ∀ b, b < 0 → a ≠ b → (TJ7 a).2.1 ≠ (TJ7 b).2.1 := by decide +kernel
theorem tyJ7_ok : ∀ k, k < 0 → parseFieldDescriptor (TJ7 k).2.2.1 = some (tyJ7 k) := by decide +kernel
abbrev cJ7_fill_53178 : ByteArray := prog_14_method_103_code
def yJ7_fill_53178 : MethodName := ⟨RJ7, "fill", "([II)V"⟩
def RL : String := "TornPagesLaw"
abbrev cL_law : ByteArray := code
def yL_law : MethodName := ⟨RL, "law", "([I)Z"⟩
abbrev vwCl : List vw_C := [(RX0, TX0, 2), (RX1, TX1, 3), (RX2, TX2, 2), (RX3, TX3, 3), (RX4, TX4, 5), (RX5, TX5, 1), (RX6, TX6, 4), (RX7, TX7, 5), (RX8, TX8, 6), (RX9, TX9, 12)]
end
section
theorem dX0_init_0 : decode cX0_init 0 = .ok (.aload_n 0, 1) := by decide +kernel
theorem dX0_init_1 : decode cX0_init 1 = .ok (.invokespecial 3, 3) := by decide +kernel
theorem dX0_init_4 : decode cX0_init 4 = .ok (.aload_n 0, 1) := by decide +kernel
theorem dX0_init_5 : decode cX0_init 5 = .ok (.new 9, 3) := by decide +kernel
theorem dX0_init_8 : decode cX0_init 8 = .ok (.dup, 1) := by decide +kernel
theorem dX0_init_9 : decode cX0_init 9 = .ok (.invokespecial 11, 3) := by decide +kernel
theorem dX0_init_12 : decode cX0_init 12 = .ok (.putfield 12, 3) := by decide +kernel
theorem dX0_init_15 : decode cX0_init 15 = .ok (.aload_n 0, 1) := by decide +kernel
theorem dX0_init_16 : decode cX0_init 16 = .ok (.new 18, 3) := by decide +kernel
theorem dX0_init_19 : decode cX0_init 19 = .ok (.dup, 1) := by decide +kernel
theorem dX0_init_20 : decode cX0_init 20 = .ok (.invokespecial 20, 3) := by decide +kernel
theorem dX0_init_23 : decode cX0_init 23 = .ok (.putfield 21, 3) := by decide +kernel
theorem dX0_init_26 : decode cX0_init 26 = .ok (.return_, 1) := by decide +kernel
theorem dX0_copy_0 : decode cX0_copy 0 = .ok (.aload_n 0, 1) := by decide +kernel
theorem dX0_copy_1 : decode cX0_copy 1 = .ok (.getfield 12, 3) := by decide +kernel
theorem dX0_copy_4 : decode cX0_copy 4 = .ok (.aload_n 1, 1) := by decide +kernel
theorem dX0_copy_5 : decode cX0_copy 5 = .ok (.getfield 12, 3) := by decide +kernel
theorem dX0_copy_8 : decode cX0_copy 8 = .ok (.invokevirtual 25, 3) := by decide +kernel
theorem dX0_copy_11 : decode cX0_copy 11 = .ok (.aload_n 0, 1) := by decide +kernel
theorem dX0_copy_12 : decode cX0_copy 12 = .ok (.getfield 21, 3) := by decide +kernel
theorem dX0_copy_15 : decode cX0_copy 15 = .ok (.aload_n 1, 1) := by decide +kernel
theorem dX0_copy_16 : decode cX0_copy 16 = .ok (.getfield 21, 3) := by decide +kernel
theorem dX0_copy_19 : decode cX0_copy 19 = .ok (.invokevirtual 29, 3) := by decide +kernel
theorem dX0_copy_22 : decode cX0_copy 22 = .ok (.return_, 1) := by decide +kernel
theorem dX0_remove_0 : decode cX0_remove 0 = .ok (.aload_n 0, 1) := by decide +kernel
theorem dX0_remove_1 : decode cX0_remove 1 = .ok (.getfield 12, 3) := by decide +kernel
theorem dX0_remove_4 : decode cX0_remove 4 = .ok (.iload_n 1, 1) := by decide +kernel
theorem dX0_remove_5 : decode cX0_remove 5 = .ok (.invokevirtual 32, 3) := by decide +kernel
theorem dX0_remove_8 : decode cX0_remove 8 = .ok (.aload_n 0, 1) := by decide +kernel
theorem dX0_remove_9 : decode cX0_remove 9 = .ok (.getfield 21, 3) := by decide +kernel
theorem dX0_remove_12 : decode cX0_remove 12 = .ok (.iload_n 1, 1) := by decide +kernel
theorem dX0_remove_13 : decode cX0_remove 13 = .ok (.invokevirtual 36, 3) := by decide +kernel
theorem dX0_remove_16 : decode cX0_remove 16 = .ok (.return_, 1) := by decide +kernel
theorem dX0_countLying_0 : decode cX0_countLying 0 = .ok (.iconst 0, 1) := by decide +kernel
theorem dX0_countLying_1 : decode cX0_countLying 1 = .ok (.istore_n 1, 1) := by decide +kernel
theorem dX0_countLying_2 : decode cX0_countLying 2 = .ok (.iconst 0, 1) := by decide +kernel
theorem dX0_countLying_3 : decode cX0_countLying 3 = .ok (.istore_n 2, 1) := by decide +kernel
theorem dX0_countLying_4 : decode cX0_countLying 4 = .ok (.iload_n 2, 1) := by decide +kernel
theorem dX0_countLying_5 : decode cX0_countLying 5 = .ok (.aload_n 0, 1) := by decide +kernel
theorem dX0_countLying_6 : decode cX0_countLying 6 = .ok (.getfield 12, 3) := by decide +kernel
theorem dX0_countLying_9 : decode cX0_countLying 9 = .ok (.invokevirtual 37, 3) := by decide +kernel
theorem dX0_countLying_12 : decode cX0_countLying 12 = .ok (.if_icmp .ge 23, 3) := by decide +kernel
theorem dX0_countLying_15 : decode cX0_countLying 15 = .ok (.aload_n 0, 1) := by decide +kernel
theorem dX0_countLying_16 : decode cX0_countLying 16 = .ok (.getfield 21, 3) := by decide +kernel
theorem dX0_countLying_19 : decode cX0_countLying 19 = .ok (.iload_n 2, 1) := by decide +kernel
theorem dX0_countLying_20 : decode cX0_countLying 20 = .ok (.invokevirtual 41, 3) := by decide +kernel
theorem dX0_countLying_23 : decode cX0_countLying 23 = .ok (.ifCond .eq 6, 3) := by decide +kernel
theorem dX0_countLying_26 : decode cX0_countLying 26 = .ok (.iinc 1 1, 3) := by decide +kernel
theorem dX0_countLying_29 : decode cX0_countLying 29 = .ok (.iinc 2 1, 3) := by decide +kernel
theorem dX0_countLying_32 : decode cX0_countLying 32 = .ok (.goto (-28), 3) := by decide +kernel
theorem dX0_countLying_35 : decode cX0_countLying 35 = .ok (.iload_n 1, 1) := by decide +kernel
theorem dX0_countLying_36 : decode cX0_countLying 36 = .ok (.ireturn, 1) := by decide +kernel
theorem dX0_neighbour_0 : decode cX0_neighbour 0 = .ok (.aload_n 0, 1) := by decide +kernel
theorem dX0_neighbour_1 : decode cX0_neighbour 1 = .ok (.getfield 21, 3) := by decide +kernel
theorem dX0_neighbour_4 : decode cX0_neighbour 4 = .ok (.aload_n 0, 1) := by decide +kernel
theorem dX0_neighbour_5 : decode cX0_neighbour 5 = .ok (.getfield 21, 3) := by decide +kernel
theorem dX0_neighbour_8 : decode cX0_neighbour 8 = .ok (.iload_n 2, 1) := by decide +kernel
theorem dX0_neighbour_9 : decode cX0_neighbour 9 = .ok (.iload_n 3, 1) := by decide +kernel
theorem dX0_neighbour_10 : decode cX0_neighbour 10 = .ok (.invokevirtual 45, 3) := by decide +kernel
theorem dX0_neighbour_13 : decode cX0_neighbour 13 = .ok (.invokevirtual 49, 3) := by decide +kernel
theorem dX0_neighbour_16 : decode cX0_neighbour 16 = .ok (.istore 4, 2) := by decide +kernel
theorem dX0_neighbour_18 : decode cX0_neighbour 18 = .ok (.iload 4, 2) := by decide +kernel
theorem dX0_neighbour_20 : decode cX0_neighbour 20 = .ok (.iload_n 1, 1) := by decide +kernel
theorem dX0_neighbour_21 : decode cX0_neighbour 21 = .ok (.if_icmp .ne 7, 3) := by decide +kernel
theorem dX0_neighbour_24 : decode cX0_neighbour 24 = .ok (.iconst (-1), 1) := by decide +kernel
theorem dX0_neighbour_25 : decode cX0_neighbour 25 = .ok (.goto 5, 3) := by decide +kernel
theorem dX0_neighbour_28 : decode cX0_neighbour 28 = .ok (.iload 4, 2) := by decide +kernel
theorem dX0_neighbour_30 : decode cX0_neighbour 30 = .ok (.ireturn, 1) := by decide +kernel
theorem dX0_verdict_0 : decode cX0_verdict 0 = .ok (.aload_n 0, 1) := by decide +kernel
theorem dX0_verdict_1 : decode cX0_verdict 1 = .ok (.getfield 12, 3) := by decide +kernel
theorem dX0_verdict_4 : decode cX0_verdict 4 = .ok (.iload_n 1, 1) := by decide +kernel
theorem dX0_verdict_5 : decode cX0_verdict 5 = .ok (.iload_n 3, 1) := by decide +kernel
theorem dX0_verdict_6 : decode cX0_verdict 6 = .ok (.iload 4, 2) := by decide +kernel
theorem dX0_verdict_8 : decode cX0_verdict 8 = .ok (.invokevirtual 53, 3) := by decide +kernel
theorem dX0_verdict_11 : decode cX0_verdict 11 = .ok (.istore 5, 2) := by decide +kernel
theorem dX0_verdict_13 : decode cX0_verdict 13 = .ok (.aload_n 0, 1) := by decide +kernel
theorem dX0_verdict_14 : decode cX0_verdict 14 = .ok (.getfield 21, 3) := by decide +kernel
theorem dX0_verdict_17 : decode cX0_verdict 17 = .ok (.iload_n 2, 1) := by decide +kernel
theorem dX0_verdict_18 : decode cX0_verdict 18 = .ok (.iload 4, 2) := by decide +kernel
theorem dX0_verdict_20 : decode cX0_verdict 20 = .ok (.invokevirtual 45, 3) := by decide +kernel
theorem dX0_verdict_23 : decode cX0_verdict 23 = .ok (.iconst (-1), 1) := by decide +kernel
theorem dX0_verdict_24 : decode cX0_verdict 24 = .ok (.if_icmp .ne 15, 3) := by decide +kernel
theorem dX0_verdict_27 : decode cX0_verdict 27 = .ok (.iload 5, 2) := by decide +kernel
theorem dX0_verdict_29 : decode cX0_verdict 29 = .ok (.iconst (-1), 1) := by decide +kernel
theorem dX0_verdict_30 : decode cX0_verdict 30 = .ok (.if_icmp .ne 7, 3) := by decide +kernel
theorem dX0_verdict_33 : decode cX0_verdict 33 = .ok (.iconst 0, 1) := by decide +kernel
theorem dX0_verdict_34 : decode cX0_verdict 34 = .ok (.goto 4, 3) := by decide +kernel
theorem dX0_verdict_37 : decode cX0_verdict 37 = .ok (.iconst 4, 1) := by decide +kernel
theorem dX0_verdict_38 : decode cX0_verdict 38 = .ok (.ireturn, 1) := by decide +kernel
theorem dX0_verdict_39 : decode cX0_verdict 39 = .ok (.aload_n 0, 1) := by decide +kernel
theorem dX0_verdict_40 : decode cX0_verdict 40 = .ok (.iload_n 1, 1) := by decide +kernel
theorem dX0_verdict_41 : decode cX0_verdict 41 = .ok (.iload_n 2, 1) := by decide +kernel
theorem dX0_verdict_42 : decode cX0_verdict 42 = .ok (.iload 4, 2) := by decide +kernel
theorem dX0_verdict_44 : decode cX0_verdict 44 = .ok (.invokevirtual 57, 3) := by decide +kernel
theorem dX0_verdict_47 : decode cX0_verdict 47 = .ok (.istore 6, 2) := by decide +kernel
theorem dX0_verdict_49 : decode cX0_verdict 49 = .ok (.iload 6, 2) := by decide +kernel
theorem dX0_verdict_51 : decode cX0_verdict 51 = .ok (.iconst (-1), 1) := by decide +kernel
theorem dX0_verdict_52 : decode cX0_verdict 52 = .ok (.if_icmp .ne 5, 3) := by decide +kernel
theorem dX0_verdict_55 : decode cX0_verdict 55 = .ok (.iconst (-1), 1) := by decide +kernel
theorem dX0_verdict_56 : decode cX0_verdict 56 = .ok (.ireturn, 1) := by decide +kernel
theorem dX0_verdict_57 : decode cX0_verdict 57 = .ok (.aload_n 0, 1) := by decide +kernel
theorem dX0_verdict_58 : decode cX0_verdict 58 = .ok (.getfield 21, 3) := by decide +kernel
theorem dX0_verdict_61 : decode cX0_verdict 61 = .ok (.iload 6, 2) := by decide +kernel
theorem dX0_verdict_63 : decode cX0_verdict 63 = .ok (.invokevirtual 60, 3) := by decide +kernel
theorem dX0_verdict_66 : decode cX0_verdict 66 = .ok (.istore 7, 2) := by decide +kernel
theorem dX0_verdict_68 : decode cX0_verdict 68 = .ok (.iload 4, 2) := by decide +kernel
theorem dX0_verdict_70 : decode cX0_verdict 70 = .ok (.iconst 2, 1) := by decide +kernel
theorem dX0_verdict_71 : decode cX0_verdict 71 = .ok (.iadd, 1) := by decide +kernel
theorem dX0_verdict_72 : decode cX0_verdict 72 = .ok (.iconst 3, 1) := by decide +kernel
theorem dX0_verdict_73 : decode cX0_verdict 73 = .ok (.iand, 1) := by decide +kernel
theorem dX0_verdict_74 : decode cX0_verdict 74 = .ok (.istore 8, 2) := by decide +kernel
theorem dX0_verdict_76 : decode cX0_verdict 76 = .ok (.aload_n 0, 1) := by decide +kernel
theorem dX0_verdict_77 : decode cX0_verdict 77 = .ok (.getfield 12, 3) := by decide +kernel
theorem dX0_verdict_80 : decode cX0_verdict 80 = .ok (.iload 6, 2) := by decide +kernel
theorem dX0_verdict_82 : decode cX0_verdict 82 = .ok (.iload 7, 2) := by decide +kernel
theorem dX0_verdict_84 : decode cX0_verdict 84 = .ok (.iload 8, 2) := by decide +kernel
theorem dX0_verdict_86 : decode cX0_verdict 86 = .ok (.invokevirtual 53, 3) := by decide +kernel
theorem dX0_verdict_89 : decode cX0_verdict 89 = .ok (.istore 9, 2) := by decide +kernel
theorem dX0_verdict_91 : decode cX0_verdict 91 = .ok (.iload 5, 2) := by decide +kernel
theorem dX0_verdict_93 : decode cX0_verdict 93 = .ok (.iconst (-1), 1) := by decide +kernel
theorem dX0_verdict_94 : decode cX0_verdict 94 = .ok (.if_icmp .eq 9, 3) := by decide +kernel
theorem dX0_verdict_97 : decode cX0_verdict 97 = .ok (.iload 9, 2) := by decide +kernel
theorem dX0_verdict_99 : decode cX0_verdict 99 = .ok (.iconst (-1), 1) := by decide +kernel
theorem dX0_verdict_100 : decode cX0_verdict 100 = .ok (.if_icmp .ne 5, 3) := by decide +kernel
theorem dX0_verdict_103 : decode cX0_verdict 103 = .ok (.iconst 1, 1) := by decide +kernel
theorem dX0_verdict_104 : decode cX0_verdict 104 = .ok (.ireturn, 1) := by decide +kernel
theorem dX0_verdict_105 : decode cX0_verdict 105 = .ok (.iload 5, 2) := by decide +kernel
theorem dX0_verdict_107 : decode cX0_verdict 107 = .ok (.iload 9, 2) := by decide +kernel
theorem dX0_verdict_109 : decode cX0_verdict 109 = .ok (.iadd, 1) := by decide +kernel
theorem dX0_verdict_110 : decode cX0_verdict 110 = .ok (.sipush 999, 3) := by decide +kernel
theorem dX0_verdict_113 : decode cX0_verdict 113 = .ok (.if_icmp .eq 5, 3) := by decide +kernel
theorem dX0_verdict_116 : decode cX0_verdict 116 = .ok (.iconst 2, 1) := by decide +kernel
theorem dX0_verdict_117 : decode cX0_verdict 117 = .ok (.ireturn, 1) := by decide +kernel
theorem dX0_verdict_118 : decode cX0_verdict 118 = .ok (.aload_n 0, 1) := by decide +kernel
theorem dX0_verdict_119 : decode cX0_verdict 119 = .ok (.getfield 12, 3) := by decide +kernel
theorem dX0_verdict_122 : decode cX0_verdict 122 = .ok (.iload_n 1, 1) := by decide +kernel
theorem dX0_verdict_123 : decode cX0_verdict 123 = .ok (.iload_n 3, 1) := by decide +kernel
theorem dX0_verdict_124 : decode cX0_verdict 124 = .ok (.iload 4, 2) := by decide +kernel
theorem dX0_verdict_126 : decode cX0_verdict 126 = .ok (.invokevirtual 63, 3) := by decide +kernel
theorem dX0_verdict_129 : decode cX0_verdict 129 = .ok (.istore 10, 2) := by decide +kernel
theorem dX0_verdict_131 : decode cX0_verdict 131 = .ok (.iload 10, 2) := by decide +kernel
theorem dX0_verdict_133 : decode cX0_verdict 133 = .ok (.aload_n 0, 1) := by decide +kernel
theorem dX0_verdict_134 : decode cX0_verdict 134 = .ok (.getfield 12, 3) := by decide +kernel
theorem dX0_verdict_137 : decode cX0_verdict 137 = .ok (.iload 6, 2) := by decide +kernel
theorem dX0_verdict_139 : decode cX0_verdict 139 = .ok (.iload 7, 2) := by decide +kernel
theorem dX0_verdict_141 : decode cX0_verdict 141 = .ok (.iload 8, 2) := by decide +kernel
theorem dX0_verdict_143 : decode cX0_verdict 143 = .ok (.invokevirtual 63, 3) := by decide +kernel
theorem dX0_verdict_146 : decode cX0_verdict 146 = .ok (.if_icmp .ne 7, 3) := by decide +kernel
theorem dX0_verdict_149 : decode cX0_verdict 149 = .ok (.iconst 0, 1) := by decide +kernel
theorem dX0_verdict_150 : decode cX0_verdict 150 = .ok (.goto 4, 3) := by decide +kernel
theorem dX0_verdict_153 : decode cX0_verdict 153 = .ok (.iconst 3, 1) := by decide +kernel
theorem dX0_verdict_154 : decode cX0_verdict 154 = .ok (.ireturn, 1) := by decide +kernel
theorem dX0_canLie_0 : decode cX0_canLie 0 = .ok (.iconst 0, 1) := by decide +kernel
theorem dX0_canLie_1 : decode cX0_canLie 1 = .ok (.istore 4, 2) := by decide +kernel
theorem dX0_canLie_3 : decode cX0_canLie 3 = .ok (.iload 4, 2) := by decide +kernel
theorem dX0_canLie_5 : decode cX0_canLie 5 = .ok (.iconst 4, 1) := by decide +kernel
theorem dX0_canLie_6 : decode cX0_canLie 6 = .ok (.if_icmp .ge 23, 3) := by decide +kernel
theorem dX0_canLie_9 : decode cX0_canLie 9 = .ok (.aload_n 0, 1) := by decide +kernel
theorem dX0_canLie_10 : decode cX0_canLie 10 = .ok (.iload_n 1, 1) := by decide +kernel
theorem dX0_canLie_11 : decode cX0_canLie 11 = .ok (.iload_n 2, 1) := by decide +kernel
theorem dX0_canLie_12 : decode cX0_canLie 12 = .ok (.iload_n 3, 1) := by decide +kernel
theorem dX0_canLie_13 : decode cX0_canLie 13 = .ok (.iload 4, 2) := by decide +kernel
theorem dX0_canLie_15 : decode cX0_canLie 15 = .ok (.invokevirtual 66, 3) := by decide +kernel
theorem dX0_canLie_18 : decode cX0_canLie 18 = .ok (.ifCond .le 5, 3) := by decide +kernel
theorem dX0_canLie_21 : decode cX0_canLie 21 = .ok (.iconst 0, 1) := by decide +kernel
theorem dX0_canLie_22 : decode cX0_canLie 22 = .ok (.ireturn, 1) := by decide +kernel
theorem dX0_canLie_23 : decode cX0_canLie 23 = .ok (.iinc 4 1, 3) := by decide +kernel
theorem dX0_canLie_26 : decode cX0_canLie 26 = .ok (.goto (-23), 3) := by decide +kernel
theorem dX0_canLie_29 : decode cX0_canLie 29 = .ok (.iconst 1, 1) := by decide +kernel
theorem dX0_canLie_30 : decode cX0_canLie 30 = .ok (.ireturn, 1) := by decide +kernel
theorem dX0_countWays_0 : decode cX0_countWays 0 = .ok (.iconst 0, 1) := by decide +kernel
theorem dX0_countWays_1 : decode cX0_countWays 1 = .ok (.istore_n 3, 1) := by decide +kernel
theorem dX0_countWays_2 : decode cX0_countWays 2 = .ok (.iconst 0, 1) := by decide +kernel
theorem dX0_countWays_3 : decode cX0_countWays 3 = .ok (.istore 4, 2) := by decide +kernel
theorem dX0_countWays_5 : decode cX0_countWays 5 = .ok (.iload 4, 2) := by decide +kernel
theorem dX0_countWays_7 : decode cX0_countWays 7 = .ok (.bipush 8, 2) := by decide +kernel
theorem dX0_countWays_9 : decode cX0_countWays 9 = .ok (.if_icmp .ge 23, 3) := by decide +kernel
theorem dX0_countWays_12 : decode cX0_countWays 12 = .ok (.aload_n 0, 1) := by decide +kernel
theorem dX0_countWays_13 : decode cX0_countWays 13 = .ok (.iload_n 1, 1) := by decide +kernel
theorem dX0_countWays_14 : decode cX0_countWays 14 = .ok (.iload_n 2, 1) := by decide +kernel
theorem dX0_countWays_15 : decode cX0_countWays 15 = .ok (.iload 4, 2) := by decide +kernel
theorem dX0_countWays_17 : decode cX0_countWays 17 = .ok (.invokevirtual 70, 3) := by decide +kernel
theorem dX0_countWays_20 : decode cX0_countWays 20 = .ok (.ifCond .eq 6, 3) := by decide +kernel
theorem dX0_countWays_23 : decode cX0_countWays 23 = .ok (.iinc 3 1, 3) := by decide +kernel
theorem dX0_countWays_26 : decode cX0_countWays 26 = .ok (.iinc 4 1, 3) := by decide +kernel
theorem dX0_countWays_29 : decode cX0_countWays 29 = .ok (.goto (-24), 3) := by decide +kernel
theorem dX0_countWays_32 : decode cX0_countWays 32 = .ok (.iload_n 3, 1) := by decide +kernel
theorem dX0_countWays_33 : decode cX0_countWays 33 = .ok (.ireturn, 1) := by decide +kernel
theorem dX0_seamsAt_0 : decode cX0_seamsAt 0 = .ok (.iconst 0, 1) := by decide +kernel
theorem dX0_seamsAt_1 : decode cX0_seamsAt 1 = .ok (.istore_n 3, 1) := by decide +kernel
theorem dX0_seamsAt_2 : decode cX0_seamsAt 2 = .ok (.iconst 0, 1) := by decide +kernel
theorem dX0_seamsAt_3 : decode cX0_seamsAt 3 = .ok (.istore 4, 2) := by decide +kernel
theorem dX0_seamsAt_5 : decode cX0_seamsAt 5 = .ok (.iload 4, 2) := by decide +kernel
theorem dX0_seamsAt_7 : decode cX0_seamsAt 7 = .ok (.iconst 4, 1) := by decide +kernel
theorem dX0_seamsAt_8 : decode cX0_seamsAt 8 = .ok (.if_icmp .ge 24, 3) := by decide +kernel
theorem dX0_seamsAt_11 : decode cX0_seamsAt 11 = .ok (.aload_n 0, 1) := by decide +kernel
theorem dX0_seamsAt_12 : decode cX0_seamsAt 12 = .ok (.iload_n 1, 1) := by decide +kernel
theorem dX0_seamsAt_13 : decode cX0_seamsAt 13 = .ok (.iload_n 2, 1) := by decide +kernel
theorem dX0_seamsAt_14 : decode cX0_seamsAt 14 = .ok (.iload 4, 2) := by decide +kernel
theorem dX0_seamsAt_16 : decode cX0_seamsAt 16 = .ok (.invokevirtual 57, 3) := by decide +kernel
theorem dX0_seamsAt_19 : decode cX0_seamsAt 19 = .ok (.iconst (-1), 1) := by decide +kernel
theorem dX0_seamsAt_20 : decode cX0_seamsAt 20 = .ok (.if_icmp .eq 6, 3) := by decide +kernel
theorem dX0_seamsAt_23 : decode cX0_seamsAt 23 = .ok (.iinc 3 1, 3) := by decide +kernel
theorem dX0_seamsAt_26 : decode cX0_seamsAt 26 = .ok (.iinc 4 1, 3) := by decide +kernel
theorem dX0_seamsAt_29 : decode cX0_seamsAt 29 = .ok (.goto (-24), 3) := by decide +kernel
theorem dX0_seamsAt_32 : decode cX0_seamsAt 32 = .ok (.iload_n 3, 1) := by decide +kernel
theorem dX0_seamsAt_33 : decode cX0_seamsAt 33 = .ok (.ireturn, 1) := by decide +kernel
theorem dX0_countFits_0 : decode cX0_countFits 0 = .ok (.iconst 0, 1) := by decide +kernel
theorem dX0_countFits_1 : decode cX0_countFits 1 = .ok (.istore_n 2, 1) := by decide +kernel
theorem dX0_countFits_2 : decode cX0_countFits 2 = .ok (.iconst 0, 1) := by decide +kernel
theorem dX0_countFits_3 : decode cX0_countFits 3 = .ok (.istore_n 3, 1) := by decide +kernel
theorem dX0_countFits_4 : decode cX0_countFits 4 = .ok (.iload_n 3, 1) := by decide +kernel
theorem dX0_countFits_5 : decode cX0_countFits 5 = .ok (.iconst 4, 1) := by decide +kernel
theorem dX0_countFits_6 : decode cX0_countFits 6 = .ok (.if_icmp .ge 21, 3) := by decide +kernel
theorem dX0_countFits_9 : decode cX0_countFits 9 = .ok (.aload_n 0, 1) := by decide +kernel
theorem dX0_countFits_10 : decode cX0_countFits 10 = .ok (.iload_n 1, 1) := by decide +kernel
theorem dX0_countFits_11 : decode cX0_countFits 11 = .ok (.iload_n 3, 1) := by decide +kernel
theorem dX0_countFits_12 : decode cX0_countFits 12 = .ok (.invokevirtual 74, 3) := by decide +kernel
theorem dX0_countFits_15 : decode cX0_countFits 15 = .ok (.ifCond .ne 6, 3) := by decide +kernel
theorem dX0_countFits_18 : decode cX0_countFits 18 = .ok (.iinc 2 1, 3) := by decide +kernel
theorem dX0_countFits_21 : decode cX0_countFits 21 = .ok (.iinc 3 1, 3) := by decide +kernel
theorem dX0_countFits_24 : decode cX0_countFits 24 = .ok (.goto (-20), 3) := by decide +kernel
theorem dX0_countFits_27 : decode cX0_countFits 27 = .ok (.iload_n 2, 1) := by decide +kernel
theorem dX0_countFits_28 : decode cX0_countFits 28 = .ok (.ireturn, 1) := by decide +kernel
theorem dX0_countFaults_0 : decode cX0_countFaults 0 = .ok (.iconst 0, 1) := by decide +kernel
theorem dX0_countFaults_1 : decode cX0_countFaults 1 = .ok (.istore_n 2, 1) := by decide +kernel
theorem dX0_countFaults_2 : decode cX0_countFaults 2 = .ok (.iconst 0, 1) := by decide +kernel
theorem dX0_countFaults_3 : decode cX0_countFaults 3 = .ok (.istore_n 3, 1) := by decide +kernel
theorem dX0_countFaults_4 : decode cX0_countFaults 4 = .ok (.iload_n 3, 1) := by decide +kernel
theorem dX0_countFaults_5 : decode cX0_countFaults 5 = .ok (.iconst 4, 1) := by decide +kernel
theorem dX0_countFaults_6 : decode cX0_countFaults 6 = .ok (.if_icmp .ge 21, 3) := by decide +kernel
theorem dX0_countFaults_9 : decode cX0_countFaults 9 = .ok (.aload_n 0, 1) := by decide +kernel
theorem dX0_countFaults_10 : decode cX0_countFaults 10 = .ok (.iload_n 1, 1) := by decide +kernel
theorem dX0_countFaults_11 : decode cX0_countFaults 11 = .ok (.iload_n 3, 1) := by decide +kernel
theorem dX0_countFaults_12 : decode cX0_countFaults 12 = .ok (.invokevirtual 74, 3) := by decide +kernel
theorem dX0_countFaults_15 : decode cX0_countFaults 15 = .ok (.ifCond .le 6, 3) := by decide +kernel
theorem dX0_countFaults_18 : decode cX0_countFaults 18 = .ok (.iinc 2 1, 3) := by decide +kernel
theorem dX0_countFaults_21 : decode cX0_countFaults 21 = .ok (.iinc 3 1, 3) := by decide +kernel
theorem dX0_countFaults_24 : decode cX0_countFaults 24 = .ok (.goto (-20), 3) := by decide +kernel
theorem dX0_countFaults_27 : decode cX0_countFaults 27 = .ok (.iload_n 2, 1) := by decide +kernel
theorem dX0_countFaults_28 : decode cX0_countFaults 28 = .ok (.ireturn, 1) := by decide +kernel
theorem dX0_verdictOnPage_0 : decode cX0_verdictOnPage 0 = .ok (.aload_n 0, 1) := by decide +kernel
theorem dX0_verdictOnPage_1 : decode cX0_verdictOnPage 1 = .ok (.getfield 21, 3) := by decide +kernel
theorem dX0_verdictOnPage_4 : decode cX0_verdictOnPage 4 = .ok (.iload_n 1, 1) := by decide +kernel
theorem dX0_verdictOnPage_5 : decode cX0_verdictOnPage 5 = .ok (.invokevirtual 77, 3) := by decide +kernel
theorem dX0_verdictOnPage_8 : decode cX0_verdictOnPage 8 = .ok (.istore_n 3, 1) := by decide +kernel
theorem dX0_verdictOnPage_9 : decode cX0_verdictOnPage 9 = .ok (.iload_n 3, 1) := by decide +kernel
theorem dX0_verdictOnPage_10 : decode cX0_verdictOnPage 10 = .ok (.iconst (-1), 1) := by decide +kernel
theorem dX0_verdictOnPage_11 : decode cX0_verdictOnPage 11 = .ok (.if_icmp .ne 7, 3) := by decide +kernel
theorem dX0_verdictOnPage_14 : decode cX0_verdictOnPage 14 = .ok (.iconst (-1), 1) := by decide +kernel
theorem dX0_verdictOnPage_15 : decode cX0_verdictOnPage 15 = .ok (.goto 18, 3) := by decide +kernel
theorem dX0_verdictOnPage_18 : decode cX0_verdictOnPage 18 = .ok (.aload_n 0, 1) := by decide +kernel
theorem dX0_verdictOnPage_19 : decode cX0_verdictOnPage 19 = .ok (.iload_n 1, 1) := by decide +kernel
theorem dX0_verdictOnPage_20 : decode cX0_verdictOnPage 20 = .ok (.iload_n 3, 1) := by decide +kernel
theorem dX0_verdictOnPage_21 : decode cX0_verdictOnPage 21 = .ok (.aload_n 0, 1) := by decide +kernel
theorem dX0_verdictOnPage_22 : decode cX0_verdictOnPage 22 = .ok (.getfield 21, 3) := by decide +kernel
theorem dX0_verdictOnPage_25 : decode cX0_verdictOnPage 25 = .ok (.iload_n 1, 1) := by decide +kernel
theorem dX0_verdictOnPage_26 : decode cX0_verdictOnPage 26 = .ok (.invokevirtual 60, 3) := by decide +kernel
theorem dX0_verdictOnPage_29 : decode cX0_verdictOnPage 29 = .ok (.iload_n 2, 1) := by decide +kernel
theorem dX0_verdictOnPage_30 : decode cX0_verdictOnPage 30 = .ok (.invokevirtual 66, 3) := by decide +kernel
theorem dX0_verdictOnPage_33 : decode cX0_verdictOnPage 33 = .ok (.ireturn, 1) := by decide +kernel
theorem dX0_neighbourOnPage_0 : decode cX0_neighbourOnPage 0 = .ok (.aload_n 0, 1) := by decide +kernel
theorem dX0_neighbourOnPage_1 : decode cX0_neighbourOnPage 1 = .ok (.getfield 21, 3) := by decide +kernel
theorem dX0_neighbourOnPage_4 : decode cX0_neighbourOnPage 4 = .ok (.iload_n 1, 1) := by decide +kernel
theorem dX0_neighbourOnPage_5 : decode cX0_neighbourOnPage 5 = .ok (.invokevirtual 77, 3) := by decide +kernel
theorem dX0_neighbourOnPage_8 : decode cX0_neighbourOnPage 8 = .ok (.istore_n 3, 1) := by decide +kernel
theorem dX0_neighbourOnPage_9 : decode cX0_neighbourOnPage 9 = .ok (.iload_n 3, 1) := by decide +kernel
theorem dX0_neighbourOnPage_10 : decode cX0_neighbourOnPage 10 = .ok (.iconst (-1), 1) := by decide +kernel
theorem dX0_neighbourOnPage_11 : decode cX0_neighbourOnPage 11 = .ok (.if_icmp .ne 7, 3) := by decide +kernel
theorem dX0_neighbourOnPage_14 : decode cX0_neighbourOnPage 14 = .ok (.iconst (-1), 1) := by decide +kernel
theorem dX0_neighbourOnPage_15 : decode cX0_neighbourOnPage 15 = .ok (.goto 10, 3) := by decide +kernel
theorem dX0_neighbourOnPage_18 : decode cX0_neighbourOnPage 18 = .ok (.aload_n 0, 1) := by decide +kernel
theorem dX0_neighbourOnPage_19 : decode cX0_neighbourOnPage 19 = .ok (.iload_n 1, 1) := by decide +kernel
theorem dX0_neighbourOnPage_20 : decode cX0_neighbourOnPage 20 = .ok (.iload_n 3, 1) := by decide +kernel
theorem dX0_neighbourOnPage_21 : decode cX0_neighbourOnPage 21 = .ok (.iload_n 2, 1) := by decide +kernel
theorem dX0_neighbourOnPage_22 : decode cX0_neighbourOnPage 22 = .ok (.invokevirtual 57, 3) := by decide +kernel
theorem dX0_neighbourOnPage_25 : decode cX0_neighbourOnPage 25 = .ok (.ireturn, 1) := by decide +kernel
theorem dX0_isJoined_0 : decode cX0_isJoined 0 = .ok (.aload_n 0, 1) := by decide +kernel
theorem dX0_isJoined_1 : decode cX0_isJoined 1 = .ok (.iload_n 1, 1) := by decide +kernel
theorem dX0_isJoined_2 : decode cX0_isJoined 2 = .ok (.iload_n 2, 1) := by decide +kernel
theorem dX0_isJoined_3 : decode cX0_isJoined 3 = .ok (.invokevirtual 80, 3) := by decide +kernel
theorem dX0_isJoined_6 : decode cX0_isJoined 6 = .ok (.iconst (-1), 1) := by decide +kernel
theorem dX0_isJoined_7 : decode cX0_isJoined 7 = .ok (.if_icmp .eq 16, 3) := by decide +kernel
theorem dX0_isJoined_10 : decode cX0_isJoined 10 = .ok (.aload_n 0, 1) := by decide +kernel
theorem dX0_isJoined_11 : decode cX0_isJoined 11 = .ok (.iload_n 1, 1) := by decide +kernel
theorem dX0_isJoined_12 : decode cX0_isJoined 12 = .ok (.iload_n 2, 1) := by decide +kernel
theorem dX0_isJoined_13 : decode cX0_isJoined 13 = .ok (.invokevirtual 74, 3) := by decide +kernel
theorem dX0_isJoined_16 : decode cX0_isJoined 16 = .ok (.ifCond .ne 7, 3) := by decide +kernel
theorem dX0_isJoined_19 : decode cX0_isJoined 19 = .ok (.iconst 1, 1) := by decide +kernel
theorem dX0_isJoined_20 : decode cX0_isJoined 20 = .ok (.goto 4, 3) := by decide +kernel
theorem dX0_isJoined_23 : decode cX0_isJoined 23 = .ok (.iconst 0, 1) := by decide +kernel
theorem dX0_isJoined_24 : decode cX0_isJoined 24 = .ok (.ireturn, 1) := by decide +kernel
theorem dX0_countSeams_0 : decode cX0_countSeams 0 = .ok (.iconst 0, 1) := by decide +kernel
theorem dX0_countSeams_1 : decode cX0_countSeams 1 = .ok (.istore_n 1, 1) := by decide +kernel
theorem dX0_countSeams_2 : decode cX0_countSeams 2 = .ok (.iconst 0, 1) := by decide +kernel
theorem dX0_countSeams_3 : decode cX0_countSeams 3 = .ok (.istore_n 2, 1) := by decide +kernel
theorem dX0_countSeams_4 : decode cX0_countSeams 4 = .ok (.iload_n 2, 1) := by decide +kernel
theorem dX0_countSeams_5 : decode cX0_countSeams 5 = .ok (.aload_n 0, 1) := by decide +kernel
theorem dX0_countSeams_6 : decode cX0_countSeams 6 = .ok (.getfield 12, 3) := by decide +kernel
theorem dX0_countSeams_9 : decode cX0_countSeams 9 = .ok (.invokevirtual 37, 3) := by decide +kernel
theorem dX0_countSeams_12 : decode cX0_countSeams 12 = .ok (.if_icmp .ge 35, 3) := by decide +kernel
theorem dX0_countSeams_15 : decode cX0_countSeams 15 = .ok (.iconst 1, 1) := by decide +kernel
theorem dX0_countSeams_16 : decode cX0_countSeams 16 = .ok (.istore_n 3, 1) := by decide +kernel
theorem dX0_countSeams_17 : decode cX0_countSeams 17 = .ok (.iload_n 3, 1) := by decide +kernel
theorem dX0_countSeams_18 : decode cX0_countSeams 18 = .ok (.iconst 2, 1) := by decide +kernel
theorem dX0_countSeams_19 : decode cX0_countSeams 19 = .ok (.if_icmp .gt 22, 3) := by decide +kernel
theorem dX0_countSeams_22 : decode cX0_countSeams 22 = .ok (.aload_n 0, 1) := by decide +kernel
theorem dX0_countSeams_23 : decode cX0_countSeams 23 = .ok (.iload_n 2, 1) := by decide +kernel
theorem dX0_countSeams_24 : decode cX0_countSeams 24 = .ok (.iload_n 3, 1) := by decide +kernel
theorem dX0_countSeams_25 : decode cX0_countSeams 25 = .ok (.invokevirtual 80, 3) := by decide +kernel
theorem dX0_countSeams_28 : decode cX0_countSeams 28 = .ok (.iconst (-1), 1) := by decide +kernel
theorem dX0_countSeams_29 : decode cX0_countSeams 29 = .ok (.if_icmp .eq 6, 3) := by decide +kernel
theorem dX0_countSeams_32 : decode cX0_countSeams 32 = .ok (.iinc 1 1, 3) := by decide +kernel
theorem dX0_countSeams_35 : decode cX0_countSeams 35 = .ok (.iinc 3 1, 3) := by decide +kernel
theorem dX0_countSeams_38 : decode cX0_countSeams 38 = .ok (.goto (-21), 3) := by decide +kernel
theorem dX0_countSeams_41 : decode cX0_countSeams 41 = .ok (.iinc 2 1, 3) := by decide +kernel
theorem dX0_countSeams_44 : decode cX0_countSeams 44 = .ok (.goto (-40), 3) := by decide +kernel
theorem dX0_countSeams_47 : decode cX0_countSeams 47 = .ok (.iload_n 1, 1) := by decide +kernel
theorem dX0_countSeams_48 : decode cX0_countSeams 48 = .ok (.ireturn, 1) := by decide +kernel
theorem dX0_countFittingSeams_0 : decode cX0_countFittingSeams 0 = .ok (.iconst 0, 1) := by decide +kernel
theorem dX0_countFittingSeams_1 : decode cX0_countFittingSeams 1 = .ok (.istore_n 1, 1) := by decide +kernel
theorem dX0_countFittingSeams_2 : decode cX0_countFittingSeams 2 = .ok (.iconst 0, 1) := by decide +kernel
theorem dX0_countFittingSeams_3 : decode cX0_countFittingSeams 3 = .ok (.istore_n 2, 1) := by decide +kernel
theorem dX0_countFittingSeams_4 : decode cX0_countFittingSeams 4 = .ok (.iload_n 2, 1) := by decide +kernel
theorem dX0_countFittingSeams_5 : decode cX0_countFittingSeams 5 = .ok (.aload_n 0, 1) := by decide +kernel
theorem dX0_countFittingSeams_6 : decode cX0_countFittingSeams 6 = .ok (.getfield 12, 3) := by decide +kernel
theorem dX0_countFittingSeams_9 : decode cX0_countFittingSeams 9 = .ok (.invokevirtual 37, 3) := by decide +kernel
theorem dX0_countFittingSeams_12 : decode cX0_countFittingSeams 12 = .ok (.if_icmp .ge 34, 3) := by decide +kernel
theorem dX0_countFittingSeams_15 : decode cX0_countFittingSeams 15 = .ok (.iconst 1, 1) := by decide +kernel
theorem dX0_countFittingSeams_16 : decode cX0_countFittingSeams 16 = .ok (.istore_n 3, 1) := by decide +kernel
theorem dX0_countFittingSeams_17 : decode cX0_countFittingSeams 17 = .ok (.iload_n 3, 1) := by decide +kernel
theorem dX0_countFittingSeams_18 : decode cX0_countFittingSeams 18 = .ok (.iconst 2, 1) := by decide +kernel
theorem dX0_countFittingSeams_19 : decode cX0_countFittingSeams 19 = .ok (.if_icmp .gt 21, 3) := by decide +kernel
theorem dX0_countFittingSeams_22 : decode cX0_countFittingSeams 22 = .ok (.aload_n 0, 1) := by decide +kernel
theorem dX0_countFittingSeams_23 : decode cX0_countFittingSeams 23 = .ok (.iload_n 2, 1) := by decide +kernel
theorem dX0_countFittingSeams_24 : decode cX0_countFittingSeams 24 = .ok (.iload_n 3, 1) := by decide +kernel
theorem dX0_countFittingSeams_25 : decode cX0_countFittingSeams 25 = .ok (.invokevirtual 83, 3) := by decide +kernel
theorem dX0_countFittingSeams_28 : decode cX0_countFittingSeams 28 = .ok (.ifCond .eq 6, 3) := by decide +kernel
theorem dX0_countFittingSeams_31 : decode cX0_countFittingSeams 31 = .ok (.iinc 1 1, 3) := by decide +kernel
theorem dX0_countFittingSeams_34 : decode cX0_countFittingSeams 34 = .ok (.iinc 3 1, 3) := by decide +kernel
theorem dX0_countFittingSeams_37 : decode cX0_countFittingSeams 37 = .ok (.goto (-20), 3) := by decide +kernel
theorem dX0_countFittingSeams_40 : decode cX0_countFittingSeams 40 = .ok (.iinc 2 1, 3) := by decide +kernel
theorem dX0_countFittingSeams_43 : decode cX0_countFittingSeams 43 = .ok (.goto (-39), 3) := by decide +kernel
theorem dX0_countFittingSeams_46 : decode cX0_countFittingSeams 46 = .ok (.iload_n 1, 1) := by decide +kernel
theorem dX0_countFittingSeams_47 : decode cX0_countFittingSeams 47 = .ok (.ireturn, 1) := by decide +kernel
theorem dX0_countBorderEdges_0 : decode cX0_countBorderEdges 0 = .ok (.iconst 0, 1) := by decide +kernel
theorem dX0_countBorderEdges_1 : decode cX0_countBorderEdges 1 = .ok (.istore_n 2, 1) := by decide +kernel
theorem dX0_countBorderEdges_2 : decode cX0_countBorderEdges 2 = .ok (.iconst 0, 1) := by decide +kernel
theorem dX0_countBorderEdges_3 : decode cX0_countBorderEdges 3 = .ok (.istore_n 3, 1) := by decide +kernel
theorem dX0_countBorderEdges_4 : decode cX0_countBorderEdges 4 = .ok (.iload_n 3, 1) := by decide +kernel
theorem dX0_countBorderEdges_5 : decode cX0_countBorderEdges 5 = .ok (.aload_n 0, 1) := by decide +kernel
theorem dX0_countBorderEdges_6 : decode cX0_countBorderEdges 6 = .ok (.getfield 12, 3) := by decide +kernel
theorem dX0_countBorderEdges_9 : decode cX0_countBorderEdges 9 = .ok (.invokevirtual 37, 3) := by decide +kernel
theorem dX0_countBorderEdges_12 : decode cX0_countBorderEdges 12 = .ok (.if_icmp .ge 48, 3) := by decide +kernel
theorem dX0_countBorderEdges_15 : decode cX0_countBorderEdges 15 = .ok (.iconst 0, 1) := by decide +kernel
theorem dX0_countBorderEdges_16 : decode cX0_countBorderEdges 16 = .ok (.istore 4, 2) := by decide +kernel
theorem dX0_countBorderEdges_18 : decode cX0_countBorderEdges 18 = .ok (.iload 4, 2) := by decide +kernel
theorem dX0_countBorderEdges_20 : decode cX0_countBorderEdges 20 = .ok (.iconst 4, 1) := by decide +kernel
theorem dX0_countBorderEdges_21 : decode cX0_countBorderEdges 21 = .ok (.if_icmp .ge 33, 3) := by decide +kernel
theorem dX0_countBorderEdges_24 : decode cX0_countBorderEdges 24 = .ok (.aload_n 0, 1) := by decide +kernel
theorem dX0_countBorderEdges_25 : decode cX0_countBorderEdges 25 = .ok (.iload_n 3, 1) := by decide +kernel
theorem dX0_countBorderEdges_26 : decode cX0_countBorderEdges 26 = .ok (.iload 4, 2) := by decide +kernel
theorem dX0_countBorderEdges_28 : decode cX0_countBorderEdges 28 = .ok (.invokevirtual 87, 3) := by decide +kernel
theorem dX0_countBorderEdges_31 : decode cX0_countBorderEdges 31 = .ok (.ifCond .eq 17, 3) := by decide +kernel
theorem dX0_countBorderEdges_34 : decode cX0_countBorderEdges 34 = .ok (.aload_n 0, 1) := by decide +kernel
theorem dX0_countBorderEdges_35 : decode cX0_countBorderEdges 35 = .ok (.iload_n 3, 1) := by decide +kernel
theorem dX0_countBorderEdges_36 : decode cX0_countBorderEdges 36 = .ok (.iload 4, 2) := by decide +kernel
theorem dX0_countBorderEdges_38 : decode cX0_countBorderEdges 38 = .ok (.invokevirtual 74, 3) := by decide +kernel
theorem dX0_countBorderEdges_41 : decode cX0_countBorderEdges 41 = .ok (.iload_n 1, 1) := by decide +kernel
theorem dX0_countBorderEdges_42 : decode cX0_countBorderEdges 42 = .ok (.if_icmp .ne 6, 3) := by decide +kernel
theorem dX0_countBorderEdges_45 : decode cX0_countBorderEdges 45 = .ok (.iinc 2 1, 3) := by decide +kernel
theorem dX0_countBorderEdges_48 : decode cX0_countBorderEdges 48 = .ok (.iinc 4 1, 3) := by decide +kernel
theorem dX0_countBorderEdges_51 : decode cX0_countBorderEdges 51 = .ok (.goto (-33), 3) := by decide +kernel
theorem dX0_countBorderEdges_54 : decode cX0_countBorderEdges 54 = .ok (.iinc 3 1, 3) := by decide +kernel
theorem dX0_countBorderEdges_57 : decode cX0_countBorderEdges 57 = .ok (.goto (-53), 3) := by decide +kernel
theorem dX0_countBorderEdges_60 : decode cX0_countBorderEdges 60 = .ok (.iload_n 2, 1) := by decide +kernel
theorem dX0_countBorderEdges_61 : decode cX0_countBorderEdges 61 = .ok (.ireturn, 1) := by decide +kernel
theorem dX0_isAtBorder_0 : decode cX0_isAtBorder 0 = .ok (.aload_n 0, 1) := by decide +kernel
theorem dX0_isAtBorder_1 : decode cX0_isAtBorder 1 = .ok (.getfield 21, 3) := by decide +kernel
theorem dX0_isAtBorder_4 : decode cX0_isAtBorder 4 = .ok (.iload_n 1, 1) := by decide +kernel
theorem dX0_isAtBorder_5 : decode cX0_isAtBorder 5 = .ok (.invokevirtual 41, 3) := by decide +kernel
theorem dX0_isAtBorder_8 : decode cX0_isAtBorder 8 = .ok (.ifCond .eq 27, 3) := by decide +kernel
theorem dX0_isAtBorder_11 : decode cX0_isAtBorder 11 = .ok (.aload_n 0, 1) := by decide +kernel
theorem dX0_isAtBorder_12 : decode cX0_isAtBorder 12 = .ok (.getfield 21, 3) := by decide +kernel
theorem dX0_isAtBorder_15 : decode cX0_isAtBorder 15 = .ok (.aload_n 0, 1) := by decide +kernel
theorem dX0_isAtBorder_16 : decode cX0_isAtBorder 16 = .ok (.getfield 21, 3) := by decide +kernel
theorem dX0_isAtBorder_19 : decode cX0_isAtBorder 19 = .ok (.iload_n 1, 1) := by decide +kernel
theorem dX0_isAtBorder_20 : decode cX0_isAtBorder 20 = .ok (.invokevirtual 77, 3) := by decide +kernel
theorem dX0_isAtBorder_23 : decode cX0_isAtBorder 23 = .ok (.iload_n 2, 1) := by decide +kernel
theorem dX0_isAtBorder_24 : decode cX0_isAtBorder 24 = .ok (.invokevirtual 45, 3) := by decide +kernel
theorem dX0_isAtBorder_27 : decode cX0_isAtBorder 27 = .ok (.iconst (-1), 1) := by decide +kernel
theorem dX0_isAtBorder_28 : decode cX0_isAtBorder 28 = .ok (.if_icmp .ne 7, 3) := by decide +kernel
theorem dX0_isAtBorder_31 : decode cX0_isAtBorder 31 = .ok (.iconst 1, 1) := by decide +kernel
theorem dX0_isAtBorder_32 : decode cX0_isAtBorder 32 = .ok (.goto 4, 3) := by decide +kernel
theorem dX0_isAtBorder_35 : decode cX0_isAtBorder 35 = .ok (.iconst 0, 1) := by decide +kernel
theorem dX0_isAtBorder_36 : decode cX0_isAtBorder 36 = .ok (.ireturn, 1) := by decide +kernel
theorem dX0_bestPlace_0 : decode cX0_bestPlace 0 = .ok (.iconst (-1), 1) := by decide +kernel
theorem dX0_bestPlace_1 : decode cX0_bestPlace 1 = .ok (.istore_n 2, 1) := by decide +kernel
theorem dX0_bestPlace_2 : decode cX0_bestPlace 2 = .ok (.iconst (-1), 1) := by decide +kernel
theorem dX0_bestPlace_3 : decode cX0_bestPlace 3 = .ok (.istore_n 3, 1) := by decide +kernel
theorem dX0_bestPlace_4 : decode cX0_bestPlace 4 = .ok (.iconst 0, 1) := by decide +kernel
theorem dX0_bestPlace_5 : decode cX0_bestPlace 5 = .ok (.istore 4, 2) := by decide +kernel
theorem dX0_bestPlace_7 : decode cX0_bestPlace 7 = .ok (.iload 4, 2) := by decide +kernel
theorem dX0_bestPlace_9 : decode cX0_bestPlace 9 = .ok (.aload_n 0, 1) := by decide +kernel
theorem dX0_bestPlace_10 : decode cX0_bestPlace 10 = .ok (.getfield 21, 3) := by decide +kernel
theorem dX0_bestPlace_13 : decode cX0_bestPlace 13 = .ok (.invokevirtual 90, 3) := by decide +kernel
theorem dX0_bestPlace_16 : decode cX0_bestPlace 16 = .ok (.if_icmp .ge 81, 3) := by decide +kernel
theorem dX0_bestPlace_19 : decode cX0_bestPlace 19 = .ok (.aload_n 0, 1) := by decide +kernel
theorem dX0_bestPlace_20 : decode cX0_bestPlace 20 = .ok (.getfield 21, 3) := by decide +kernel
theorem dX0_bestPlace_23 : decode cX0_bestPlace 23 = .ok (.iload 4, 2) := by decide +kernel
theorem dX0_bestPlace_25 : decode cX0_bestPlace 25 = .ok (.invokevirtual 49, 3) := by decide +kernel
theorem dX0_bestPlace_28 : decode cX0_bestPlace 28 = .ok (.iconst (-1), 1) := by decide +kernel
theorem dX0_bestPlace_29 : decode cX0_bestPlace 29 = .ok (.if_icmp .ne 13, 3) := by decide +kernel
theorem dX0_bestPlace_32 : decode cX0_bestPlace 32 = .ok (.aload_n 0, 1) := by decide +kernel
theorem dX0_bestPlace_33 : decode cX0_bestPlace 33 = .ok (.iload_n 1, 1) := by decide +kernel
theorem dX0_bestPlace_34 : decode cX0_bestPlace 34 = .ok (.iload 4, 2) := by decide +kernel
theorem dX0_bestPlace_36 : decode cX0_bestPlace 36 = .ok (.invokevirtual 93, 3) := by decide +kernel
theorem dX0_bestPlace_39 : decode cX0_bestPlace 39 = .ok (.goto 4, 3) := by decide +kernel
theorem dX0_bestPlace_42 : decode cX0_bestPlace 42 = .ok (.iconst (-1), 1) := by decide +kernel
theorem dX0_bestPlace_43 : decode cX0_bestPlace 43 = .ok (.istore 5, 2) := by decide +kernel
theorem dX0_bestPlace_45 : decode cX0_bestPlace 45 = .ok (.iconst 0, 1) := by decide +kernel
theorem dX0_bestPlace_46 : decode cX0_bestPlace 46 = .ok (.istore 6, 2) := by decide +kernel
theorem dX0_bestPlace_48 : decode cX0_bestPlace 48 = .ok (.iload 6, 2) := by decide +kernel
theorem dX0_bestPlace_50 : decode cX0_bestPlace 50 = .ok (.bipush 8, 2) := by decide +kernel
theorem dX0_bestPlace_52 : decode cX0_bestPlace 52 = .ok (.if_icmp .ge 39, 3) := by decide +kernel
theorem dX0_bestPlace_55 : decode cX0_bestPlace 55 = .ok (.iload 5, 2) := by decide +kernel
theorem dX0_bestPlace_57 : decode cX0_bestPlace 57 = .ok (.iload_n 3, 1) := by decide +kernel
theorem dX0_bestPlace_58 : decode cX0_bestPlace 58 = .ok (.if_icmp .le 33, 3) := by decide +kernel
theorem dX0_bestPlace_61 : decode cX0_bestPlace 61 = .ok (.aload_n 0, 1) := by decide +kernel
theorem dX0_bestPlace_62 : decode cX0_bestPlace 62 = .ok (.iload_n 1, 1) := by decide +kernel
theorem dX0_bestPlace_63 : decode cX0_bestPlace 63 = .ok (.iload 4, 2) := by decide +kernel
theorem dX0_bestPlace_65 : decode cX0_bestPlace 65 = .ok (.iload 6, 2) := by decide +kernel
theorem dX0_bestPlace_67 : decode cX0_bestPlace 67 = .ok (.invokevirtual 70, 3) := by decide +kernel
theorem dX0_bestPlace_70 : decode cX0_bestPlace 70 = .ok (.ifCond .eq 15, 3) := by decide +kernel
theorem dX0_bestPlace_73 : decode cX0_bestPlace 73 = .ok (.iload 4, 2) := by decide +kernel
theorem dX0_bestPlace_75 : decode cX0_bestPlace 75 = .ok (.bipush 10, 2) := by decide +kernel
theorem dX0_bestPlace_77 : decode cX0_bestPlace 77 = .ok (.imul, 1) := by decide +kernel
theorem dX0_bestPlace_78 : decode cX0_bestPlace 78 = .ok (.iload 6, 2) := by decide +kernel
theorem dX0_bestPlace_80 : decode cX0_bestPlace 80 = .ok (.iadd, 1) := by decide +kernel
theorem dX0_bestPlace_81 : decode cX0_bestPlace 81 = .ok (.istore_n 2, 1) := by decide +kernel
theorem dX0_bestPlace_82 : decode cX0_bestPlace 82 = .ok (.iload 5, 2) := by decide +kernel
theorem dX0_bestPlace_84 : decode cX0_bestPlace 84 = .ok (.istore_n 3, 1) := by decide +kernel
theorem dX0_bestPlace_85 : decode cX0_bestPlace 85 = .ok (.iinc 6 1, 3) := by decide +kernel
theorem dX0_bestPlace_88 : decode cX0_bestPlace 88 = .ok (.goto (-40), 3) := by decide +kernel
theorem dX0_bestPlace_91 : decode cX0_bestPlace 91 = .ok (.iinc 4 1, 3) := by decide +kernel
theorem dX0_bestPlace_94 : decode cX0_bestPlace 94 = .ok (.goto (-87), 3) := by decide +kernel
theorem dX0_bestPlace_97 : decode cX0_bestPlace 97 = .ok (.iload_n 2, 1) := by decide +kernel
theorem dX0_bestPlace_98 : decode cX0_bestPlace 98 = .ok (.ireturn, 1) := by decide +kernel
theorem dX0_layNext_0 : decode cX0_layNext 0 = .ok (.iconst 0, 1) := by decide +kernel
theorem dX0_layNext_1 : decode cX0_layNext 1 = .ok (.istore_n 1, 1) := by decide +kernel
theorem dX0_layNext_2 : decode cX0_layNext 2 = .ok (.iload_n 1, 1) := by decide +kernel
theorem dX0_layNext_3 : decode cX0_layNext 3 = .ok (.aload_n 0, 1) := by decide +kernel
theorem dX0_layNext_4 : decode cX0_layNext 4 = .ok (.getfield 12, 3) := by decide +kernel
theorem dX0_layNext_7 : decode cX0_layNext 7 = .ok (.invokevirtual 37, 3) := by decide +kernel
theorem dX0_layNext_10 : decode cX0_layNext 10 = .ok (.if_icmp .ge 53, 3) := by decide +kernel
theorem dX0_layNext_13 : decode cX0_layNext 13 = .ok (.aload_n 0, 1) := by decide +kernel
theorem dX0_layNext_14 : decode cX0_layNext 14 = .ok (.getfield 21, 3) := by decide +kernel
theorem dX0_layNext_17 : decode cX0_layNext 17 = .ok (.iload_n 1, 1) := by decide +kernel
theorem dX0_layNext_18 : decode cX0_layNext 18 = .ok (.invokevirtual 41, 3) := by decide +kernel
theorem dX0_layNext_21 : decode cX0_layNext 21 = .ok (.ifCond .eq 7, 3) := by decide +kernel
theorem dX0_layNext_24 : decode cX0_layNext 24 = .ok (.iconst (-1), 1) := by decide +kernel
theorem dX0_layNext_25 : decode cX0_layNext 25 = .ok (.goto 8, 3) := by decide +kernel
theorem dX0_layNext_28 : decode cX0_layNext 28 = .ok (.aload_n 0, 1) := by decide +kernel
theorem dX0_layNext_29 : decode cX0_layNext 29 = .ok (.iload_n 1, 1) := by decide +kernel
theorem dX0_layNext_30 : decode cX0_layNext 30 = .ok (.invokevirtual 96, 3) := by decide +kernel
theorem dX0_layNext_33 : decode cX0_layNext 33 = .ok (.istore_n 2, 1) := by decide +kernel
theorem dX0_layNext_34 : decode cX0_layNext 34 = .ok (.iload_n 2, 1) := by decide +kernel
theorem dX0_layNext_35 : decode cX0_layNext 35 = .ok (.iconst (-1), 1) := by decide +kernel
theorem dX0_layNext_36 : decode cX0_layNext 36 = .ok (.if_icmp .eq 21, 3) := by decide +kernel
theorem dX0_layNext_39 : decode cX0_layNext 39 = .ok (.aload_n 0, 1) := by decide +kernel
theorem dX0_layNext_40 : decode cX0_layNext 40 = .ok (.getfield 21, 3) := by decide +kernel
theorem dX0_layNext_43 : decode cX0_layNext 43 = .ok (.iload_n 1, 1) := by decide +kernel
theorem dX0_layNext_44 : decode cX0_layNext 44 = .ok (.iload_n 2, 1) := by decide +kernel
theorem dX0_layNext_45 : decode cX0_layNext 45 = .ok (.bipush 10, 2) := by decide +kernel
theorem dX0_layNext_47 : decode cX0_layNext 47 = .ok (.idiv, 1) := by decide +kernel
theorem dX0_layNext_48 : decode cX0_layNext 48 = .ok (.iload_n 2, 1) := by decide +kernel
theorem dX0_layNext_49 : decode cX0_layNext 49 = .ok (.bipush 10, 2) := by decide +kernel
theorem dX0_layNext_51 : decode cX0_layNext 51 = .ok (.irem, 1) := by decide +kernel
theorem dX0_layNext_52 : decode cX0_layNext 52 = .ok (.invokevirtual 99, 3) := by decide +kernel
theorem dX0_layNext_55 : decode cX0_layNext 55 = .ok (.iconst 1, 1) := by decide +kernel
theorem dX0_layNext_56 : decode cX0_layNext 56 = .ok (.ireturn, 1) := by decide +kernel
theorem dX0_layNext_57 : decode cX0_layNext 57 = .ok (.iinc 1 1, 3) := by decide +kernel
theorem dX0_layNext_60 : decode cX0_layNext 60 = .ok (.goto (-58), 3) := by decide +kernel
theorem dX0_layNext_63 : decode cX0_layNext 63 = .ok (.iconst 0, 1) := by decide +kernel
theorem dX0_layNext_64 : decode cX0_layNext 64 = .ok (.ireturn, 1) := by decide +kernel
theorem dX1_init_0 : decode cX1_init 0 = .ok (.aload_n 0, 1) := by decide +kernel
theorem dX1_init_1 : decode cX1_init 1 = .ok (.invokespecial 3, 3) := by decide +kernel
theorem dX1_init_4 : decode cX1_init 4 = .ok (.aload_n 0, 1) := by decide +kernel
theorem dX1_init_5 : decode cX1_init 5 = .ok (.new 9, 3) := by decide +kernel
theorem dX1_init_8 : decode cX1_init 8 = .ok (.dup, 1) := by decide +kernel
theorem dX1_init_9 : decode cX1_init 9 = .ok (.iconst 4, 1) := by decide +kernel
theorem dX1_init_10 : decode cX1_init 10 = .ok (.invokespecial 11, 3) := by decide +kernel
theorem dX1_init_13 : decode cX1_init 13 = .ok (.putfield 14, 3) := by decide +kernel
theorem dX1_init_16 : decode cX1_init 16 = .ok (.aload_n 0, 1) := by decide +kernel
theorem dX1_init_17 : decode cX1_init 17 = .ok (.new 9, 3) := by decide +kernel
theorem dX1_init_20 : decode cX1_init 20 = .ok (.dup, 1) := by decide +kernel
theorem dX1_init_21 : decode cX1_init 21 = .ok (.iconst 4, 1) := by decide +kernel
theorem dX1_init_22 : decode cX1_init 22 = .ok (.invokespecial 11, 3) := by decide +kernel
theorem dX1_init_25 : decode cX1_init 25 = .ok (.putfield 20, 3) := by decide +kernel
theorem dX1_init_28 : decode cX1_init 28 = .ok (.return_, 1) := by decide +kernel
theorem dX1_setEdge_0 : decode cX1_setEdge 0 = .ok (.aload_n 0, 1) := by decide +kernel
theorem dX1_setEdge_1 : decode cX1_setEdge 1 = .ok (.getfield 14, 3) := by decide +kernel
theorem dX1_setEdge_4 : decode cX1_setEdge 4 = .ok (.iload_n 1, 1) := by decide +kernel
theorem dX1_setEdge_5 : decode cX1_setEdge 5 = .ok (.iload_n 2, 1) := by decide +kernel
theorem dX1_setEdge_6 : decode cX1_setEdge 6 = .ok (.invokevirtual 23, 3) := by decide +kernel
theorem dX1_setEdge_9 : decode cX1_setEdge 9 = .ok (.aload_n 0, 1) := by decide +kernel
theorem dX1_setEdge_10 : decode cX1_setEdge 10 = .ok (.getfield 20, 3) := by decide +kernel
theorem dX1_setEdge_13 : decode cX1_setEdge 13 = .ok (.iload_n 1, 1) := by decide +kernel
theorem dX1_setEdge_14 : decode cX1_setEdge 14 = .ok (.iload_n 3, 1) := by decide +kernel
theorem dX1_setEdge_15 : decode cX1_setEdge 15 = .ok (.invokevirtual 23, 3) := by decide +kernel
theorem dX1_setEdge_18 : decode cX1_setEdge 18 = .ok (.return_, 1) := by decide +kernel
theorem dX1_setKind_0 : decode cX1_setKind 0 = .ok (.aload_n 0, 1) := by decide +kernel
theorem dX1_setKind_1 : decode cX1_setKind 1 = .ok (.iload_n 1, 1) := by decide +kernel
theorem dX1_setKind_2 : decode cX1_setKind 2 = .ok (.putfield 27, 3) := by decide +kernel
theorem dX1_setKind_5 : decode cX1_setKind 5 = .ok (.return_, 1) := by decide +kernel
theorem dX1_kind_0 : decode cX1_kind 0 = .ok (.aload_n 0, 1) := by decide +kernel
theorem dX1_kind_1 : decode cX1_kind 1 = .ok (.getfield 27, 3) := by decide +kernel
theorem dX1_kind_4 : decode cX1_kind 4 = .ok (.ireturn, 1) := by decide +kernel
theorem dX1_profile_0 : decode cX1_profile 0 = .ok (.aload_n 0, 1) := by decide +kernel
theorem dX1_profile_1 : decode cX1_profile 1 = .ok (.getfield 14, 3) := by decide +kernel
theorem dX1_profile_4 : decode cX1_profile 4 = .ok (.iload_n 1, 1) := by decide +kernel
theorem dX1_profile_5 : decode cX1_profile 5 = .ok (.iload_n 2, 1) := by decide +kernel
theorem dX1_profile_6 : decode cX1_profile 6 = .ok (.invokestatic 31, 3) := by decide +kernel
theorem dX1_profile_9 : decode cX1_profile 9 = .ok (.invokevirtual 35, 3) := by decide +kernel
theorem dX1_profile_12 : decode cX1_profile 12 = .ok (.istore_n 3, 1) := by decide +kernel
theorem dX1_profile_13 : decode cX1_profile 13 = .ok (.iload_n 1, 1) := by decide +kernel
theorem dX1_profile_14 : decode cX1_profile 14 = .ok (.iload_n 2, 1) := by decide +kernel
theorem dX1_profile_15 : decode cX1_profile 15 = .ok (.invokestatic 39, 3) := by decide +kernel
theorem dX1_profile_18 : decode cX1_profile 18 = .ok (.ifCond .eq 10, 3) := by decide +kernel
theorem dX1_profile_21 : decode cX1_profile 21 = .ok (.iload_n 3, 1) := by decide +kernel
theorem dX1_profile_22 : decode cX1_profile 22 = .ok (.invokestatic 43, 3) := by decide +kernel
theorem dX1_profile_25 : decode cX1_profile 25 = .ok (.goto 4, 3) := by decide +kernel
theorem dX1_profile_28 : decode cX1_profile 28 = .ok (.iload_n 3, 1) := by decide +kernel
theorem dX1_profile_29 : decode cX1_profile 29 = .ok (.ireturn, 1) := by decide +kernel
theorem dX1_line_0 : decode cX1_line 0 = .ok (.aload_n 0, 1) := by decide +kernel
theorem dX1_line_1 : decode cX1_line 1 = .ok (.getfield 27, 3) := by decide +kernel
theorem dX1_line_4 : decode cX1_line 4 = .ok (.ifCond .ne 12, 3) := by decide +kernel
theorem dX1_line_7 : decode cX1_line 7 = .ok (.iload_n 1, 1) := by decide +kernel
theorem dX1_line_8 : decode cX1_line 8 = .ok (.iconst 4, 1) := by decide +kernel
theorem dX1_line_9 : decode cX1_line 9 = .ok (.if_icmp .lt 7, 3) := by decide +kernel
theorem dX1_line_12 : decode cX1_line 12 = .ok (.iconst 1, 1) := by decide +kernel
theorem dX1_line_13 : decode cX1_line 13 = .ok (.goto 4, 3) := by decide +kernel
theorem dX1_line_16 : decode cX1_line 16 = .ok (.iconst 0, 1) := by decide +kernel
theorem dX1_line_17 : decode cX1_line 17 = .ok (.istore_n 3, 1) := by decide +kernel
theorem dX1_line_18 : decode cX1_line 18 = .ok (.iload_n 3, 1) := by decide +kernel
theorem dX1_line_19 : decode cX1_line 19 = .ok (.ifCond .eq 7, 3) := by decide +kernel
theorem dX1_line_22 : decode cX1_line 22 = .ok (.iconst 0, 1) := by decide +kernel
theorem dX1_line_23 : decode cX1_line 23 = .ok (.goto 15, 3) := by decide +kernel
theorem dX1_line_26 : decode cX1_line 26 = .ok (.aload_n 0, 1) := by decide +kernel
theorem dX1_line_27 : decode cX1_line 27 = .ok (.getfield 20, 3) := by decide +kernel
theorem dX1_line_30 : decode cX1_line 30 = .ok (.iload_n 1, 1) := by decide +kernel
theorem dX1_line_31 : decode cX1_line 31 = .ok (.iload_n 2, 1) := by decide +kernel
theorem dX1_line_32 : decode cX1_line 32 = .ok (.invokestatic 31, 3) := by decide +kernel
theorem dX1_line_35 : decode cX1_line 35 = .ok (.invokevirtual 35, 3) := by decide +kernel
theorem dX1_line_38 : decode cX1_line 38 = .ok (.ireturn, 1) := by decide +kernel
theorem dX1_origin_0 : decode cX1_origin 0 = .ok (.iload_n 0, 1) := by decide +kernel
theorem dX1_origin_1 : decode cX1_origin 1 = .ok (.iload_n 1, 1) := by decide +kernel
theorem dX1_origin_2 : decode cX1_origin 2 = .ok (.invokestatic 46, 3) := by decide +kernel
theorem dX1_origin_5 : decode cX1_origin 5 = .ok (.istore_n 2, 1) := by decide +kernel
theorem dX1_origin_6 : decode cX1_origin 6 = .ok (.iload_n 0, 1) := by decide +kernel
theorem dX1_origin_7 : decode cX1_origin 7 = .ok (.iconst 4, 1) := by decide +kernel
theorem dX1_origin_8 : decode cX1_origin 8 = .ok (.if_icmp .lt 11, 3) := by decide +kernel
theorem dX1_origin_11 : decode cX1_origin 11 = .ok (.iconst 4, 1) := by decide +kernel
theorem dX1_origin_12 : decode cX1_origin 12 = .ok (.iload_n 2, 1) := by decide +kernel
theorem dX1_origin_13 : decode cX1_origin 13 = .ok (.isub, 1) := by decide +kernel
theorem dX1_origin_14 : decode cX1_origin 14 = .ok (.iconst 3, 1) := by decide +kernel
theorem dX1_origin_15 : decode cX1_origin 15 = .ok (.iand, 1) := by decide +kernel
theorem dX1_origin_16 : decode cX1_origin 16 = .ok (.goto 4, 3) := by decide +kernel
theorem dX1_origin_19 : decode cX1_origin 19 = .ok (.iload_n 2, 1) := by decide +kernel
theorem dX1_origin_20 : decode cX1_origin 20 = .ok (.ireturn, 1) := by decide +kernel
theorem dX1_unturned_0 : decode cX1_unturned 0 = .ok (.iload_n 1, 1) := by decide +kernel
theorem dX1_unturned_1 : decode cX1_unturned 1 = .ok (.iload_n 0, 1) := by decide +kernel
theorem dX1_unturned_2 : decode cX1_unturned 2 = .ok (.isub, 1) := by decide +kernel
theorem dX1_unturned_3 : decode cX1_unturned 3 = .ok (.iconst 3, 1) := by decide +kernel
theorem dX1_unturned_4 : decode cX1_unturned 4 = .ok (.iand, 1) := by decide +kernel
theorem dX1_unturned_5 : decode cX1_unturned 5 = .ok (.ireturn, 1) := by decide +kernel
theorem dX1_isReversed_0 : decode cX1_isReversed 0 = .ok (.iload_n 0, 1) := by decide +kernel
theorem dX1_isReversed_1 : decode cX1_isReversed 1 = .ok (.iload_n 1, 1) := by decide +kernel
theorem dX1_isReversed_2 : decode cX1_isReversed 2 = .ok (.invokestatic 46, 3) := by decide +kernel
theorem dX1_isReversed_5 : decode cX1_isReversed 5 = .ok (.istore_n 2, 1) := by decide +kernel
theorem dX1_isReversed_6 : decode cX1_isReversed 6 = .ok (.iload_n 2, 1) := by decide +kernel
theorem dX1_isReversed_7 : decode cX1_isReversed 7 = .ok (.invokestatic 49, 3) := by decide +kernel
theorem dX1_isReversed_10 : decode cX1_isReversed 10 = .ok (.iload_n 1, 1) := by decide +kernel
theorem dX1_isReversed_11 : decode cX1_isReversed 11 = .ok (.invokestatic 49, 3) := by decide +kernel
theorem dX1_isReversed_14 : decode cX1_isReversed 14 = .ok (.if_icmp .eq 7, 3) := by decide +kernel
theorem dX1_isReversed_17 : decode cX1_isReversed 17 = .ok (.iconst 1, 1) := by decide +kernel
theorem dX1_isReversed_18 : decode cX1_isReversed 18 = .ok (.goto 4, 3) := by decide +kernel
theorem dX1_isReversed_21 : decode cX1_isReversed 21 = .ok (.iconst 0, 1) := by decide +kernel
theorem dX1_isReversed_22 : decode cX1_isReversed 22 = .ok (.istore_n 3, 1) := by decide +kernel
theorem dX1_isReversed_23 : decode cX1_isReversed 23 = .ok (.iload_n 0, 1) := by decide +kernel
theorem dX1_isReversed_24 : decode cX1_isReversed 24 = .ok (.iconst 4, 1) := by decide +kernel
theorem dX1_isReversed_25 : decode cX1_isReversed 25 = .ok (.if_icmp .lt 16, 3) := by decide +kernel
theorem dX1_isReversed_28 : decode cX1_isReversed 28 = .ok (.iload_n 2, 1) := by decide +kernel
theorem dX1_isReversed_29 : decode cX1_isReversed 29 = .ok (.ifCond .eq 8, 3) := by decide +kernel
theorem dX1_isReversed_32 : decode cX1_isReversed 32 = .ok (.iload_n 2, 1) := by decide +kernel
theorem dX1_isReversed_33 : decode cX1_isReversed 33 = .ok (.iconst 2, 1) := by decide +kernel
theorem dX1_isReversed_34 : decode cX1_isReversed 34 = .ok (.if_icmp .ne 7, 3) := by decide +kernel
theorem dX1_isReversed_37 : decode cX1_isReversed 37 = .ok (.iconst 1, 1) := by decide +kernel
theorem dX1_isReversed_38 : decode cX1_isReversed 38 = .ok (.goto 4, 3) := by decide +kernel
theorem dX1_isReversed_41 : decode cX1_isReversed 41 = .ok (.iconst 0, 1) := by decide +kernel
theorem dX1_isReversed_42 : decode cX1_isReversed 42 = .ok (.istore 4, 2) := by decide +kernel
theorem dX1_isReversed_44 : decode cX1_isReversed 44 = .ok (.iload_n 3, 1) := by decide +kernel
theorem dX1_isReversed_45 : decode cX1_isReversed 45 = .ok (.iload 4, 2) := by decide +kernel
theorem dX1_isReversed_47 : decode cX1_isReversed 47 = .ok (.if_icmp .eq 7, 3) := by decide +kernel
theorem dX1_isReversed_50 : decode cX1_isReversed 50 = .ok (.iconst 1, 1) := by decide +kernel
theorem dX1_isReversed_51 : decode cX1_isReversed 51 = .ok (.goto 4, 3) := by decide +kernel
theorem dX1_isReversed_54 : decode cX1_isReversed 54 = .ok (.iconst 0, 1) := by decide +kernel
theorem dX1_isReversed_55 : decode cX1_isReversed 55 = .ok (.ireturn, 1) := by decide +kernel
theorem dX1_isToldClockwise_0 : decode cX1_isToldClockwise 0 = .ok (.iload_n 0, 1) := by decide +kernel
theorem dX1_isToldClockwise_1 : decode cX1_isToldClockwise 1 = .ok (.ifCond .eq 8, 3) := by decide +kernel
theorem dX1_isToldClockwise_4 : decode cX1_isToldClockwise 4 = .ok (.iload_n 0, 1) := by decide +kernel
theorem dX1_isToldClockwise_5 : decode cX1_isToldClockwise 5 = .ok (.iconst 1, 1) := by decide +kernel
theorem dX1_isToldClockwise_6 : decode cX1_isToldClockwise 6 = .ok (.if_icmp .ne 7, 3) := by decide +kernel
theorem dX1_isToldClockwise_9 : decode cX1_isToldClockwise 9 = .ok (.iconst 1, 1) := by decide +kernel
theorem dX1_isToldClockwise_10 : decode cX1_isToldClockwise 10 = .ok (.goto 4, 3) := by decide +kernel
theorem dX1_isToldClockwise_13 : decode cX1_isToldClockwise 13 = .ok (.iconst 0, 1) := by decide +kernel
theorem dX1_isToldClockwise_14 : decode cX1_isToldClockwise 14 = .ok (.ireturn, 1) := by decide +kernel
theorem dX1_reverse_0 : decode cX1_reverse 0 = .ok (.iload_n 0, 1) := by decide +kernel
theorem dX1_reverse_1 : decode cX1_reverse 1 = .ok (.iconst (-1), 1) := by decide +kernel
theorem dX1_reverse_2 : decode cX1_reverse 2 = .ok (.if_icmp .ne 5, 3) := by decide +kernel
theorem dX1_reverse_5 : decode cX1_reverse 5 = .ok (.iconst (-1), 1) := by decide +kernel
theorem dX1_reverse_6 : decode cX1_reverse 6 = .ok (.ireturn, 1) := by decide +kernel
theorem dX1_reverse_7 : decode cX1_reverse 7 = .ok (.iload_n 0, 1) := by decide +kernel
theorem dX1_reverse_8 : decode cX1_reverse 8 = .ok (.bipush 10, 2) := by decide +kernel
theorem dX1_reverse_10 : decode cX1_reverse 10 = .ok (.irem, 1) := by decide +kernel
theorem dX1_reverse_11 : decode cX1_reverse 11 = .ok (.bipush 100, 2) := by decide +kernel
theorem dX1_reverse_13 : decode cX1_reverse 13 = .ok (.imul, 1) := by decide +kernel
theorem dX1_reverse_14 : decode cX1_reverse 14 = .ok (.iload_n 0, 1) := by decide +kernel
theorem dX1_reverse_15 : decode cX1_reverse 15 = .ok (.bipush 10, 2) := by decide +kernel
theorem dX1_reverse_17 : decode cX1_reverse 17 = .ok (.idiv, 1) := by decide +kernel
theorem dX1_reverse_18 : decode cX1_reverse 18 = .ok (.bipush 10, 2) := by decide +kernel
theorem dX1_reverse_20 : decode cX1_reverse 20 = .ok (.irem, 1) := by decide +kernel
theorem dX1_reverse_21 : decode cX1_reverse 21 = .ok (.bipush 10, 2) := by decide +kernel
theorem dX1_reverse_23 : decode cX1_reverse 23 = .ok (.imul, 1) := by decide +kernel
theorem dX1_reverse_24 : decode cX1_reverse 24 = .ok (.iadd, 1) := by decide +kernel
theorem dX1_reverse_25 : decode cX1_reverse 25 = .ok (.iload_n 0, 1) := by decide +kernel
theorem dX1_reverse_26 : decode cX1_reverse 26 = .ok (.bipush 100, 2) := by decide +kernel
theorem dX1_reverse_28 : decode cX1_reverse 28 = .ok (.idiv, 1) := by decide +kernel
theorem dX1_reverse_29 : decode cX1_reverse 29 = .ok (.iadd, 1) := by decide +kernel
theorem dX1_reverse_30 : decode cX1_reverse 30 = .ok (.ireturn, 1) := by decide +kernel
theorem dX2_init_0 : decode cX2_init 0 = .ok (.aload_n 0, 1) := by decide +kernel
theorem dX2_init_1 : decode cX2_init 1 = .ok (.invokespecial 3, 3) := by decide +kernel
theorem dX2_init_4 : decode cX2_init 4 = .ok (.aload_n 0, 1) := by decide +kernel
theorem dX2_init_5 : decode cX2_init 5 = .ok (.new 9, 3) := by decide +kernel
theorem dX2_init_8 : decode cX2_init 8 = .ok (.dup, 1) := by decide +kernel
theorem dX2_init_9 : decode cX2_init 9 = .ok (.bipush 12, 2) := by decide +kernel
theorem dX2_init_11 : decode cX2_init 11 = .ok (.invokespecial 11, 3) := by decide +kernel
theorem dX2_init_14 : decode cX2_init 14 = .ok (.putfield 14, 3) := by decide +kernel
theorem dX2_init_17 : decode cX2_init 17 = .ok (.return_, 1) := by decide +kernel
theorem dX2_gather_0 : decode cX2_gather 0 = .ok (.aload_n 0, 1) := by decide +kernel
theorem dX2_gather_1 : decode cX2_gather 1 = .ok (.aload_n 1, 1) := by decide +kernel
theorem dX2_gather_2 : decode cX2_gather 2 = .ok (.getfield 20, 3) := by decide +kernel
theorem dX2_gather_5 : decode cX2_gather 5 = .ok (.invokevirtual 26, 3) := by decide +kernel
theorem dX2_gather_8 : decode cX2_gather 8 = .ok (.putfield 32, 3) := by decide +kernel
theorem dX2_gather_11 : decode cX2_gather 11 = .ok (.iconst 0, 1) := by decide +kernel
theorem dX2_gather_12 : decode cX2_gather 12 = .ok (.istore_n 2, 1) := by decide +kernel
theorem dX2_gather_13 : decode cX2_gather 13 = .ok (.iload_n 2, 1) := by decide +kernel
theorem dX2_gather_14 : decode cX2_gather 14 = .ok (.aload_n 0, 1) := by decide +kernel
theorem dX2_gather_15 : decode cX2_gather 15 = .ok (.getfield 32, 3) := by decide +kernel
theorem dX2_gather_18 : decode cX2_gather 18 = .ok (.if_icmp .ge 33, 3) := by decide +kernel
theorem dX2_gather_21 : decode cX2_gather 21 = .ok (.aload_n 0, 1) := by decide +kernel
theorem dX2_gather_22 : decode cX2_gather 22 = .ok (.getfield 14, 3) := by decide +kernel
theorem dX2_gather_25 : decode cX2_gather 25 = .ok (.iload_n 2, 1) := by decide +kernel
theorem dX2_gather_26 : decode cX2_gather 26 = .ok (.aload_n 1, 1) := by decide +kernel
theorem dX2_gather_27 : decode cX2_gather 27 = .ok (.getfield 35, 3) := by decide +kernel
theorem dX2_gather_30 : decode cX2_gather 30 = .ok (.iload_n 2, 1) := by decide +kernel
theorem dX2_gather_31 : decode cX2_gather 31 = .ok (.invokevirtual 39, 3) := by decide +kernel
theorem dX2_gather_34 : decode cX2_gather 34 = .ok (.ifCond .eq 7, 3) := by decide +kernel
theorem dX2_gather_37 : decode cX2_gather 37 = .ok (.iload_n 2, 1) := by decide +kernel
theorem dX2_gather_38 : decode cX2_gather 38 = .ok (.goto 4, 3) := by decide +kernel
theorem dX2_gather_41 : decode cX2_gather 41 = .ok (.iconst (-1), 1) := by decide +kernel
theorem dX2_gather_42 : decode cX2_gather 42 = .ok (.invokevirtual 45, 3) := by decide +kernel
theorem dX2_gather_45 : decode cX2_gather 45 = .ok (.iinc 2 1, 3) := by decide +kernel
theorem dX2_gather_48 : decode cX2_gather 48 = .ok (.goto (-35), 3) := by decide +kernel
theorem dX2_gather_51 : decode cX2_gather 51 = .ok (.iconst 0, 1) := by decide +kernel
theorem dX2_gather_52 : decode cX2_gather 52 = .ok (.istore_n 2, 1) := by decide +kernel
theorem dX2_gather_53 : decode cX2_gather 53 = .ok (.iload_n 2, 1) := by decide +kernel
theorem dX2_gather_54 : decode cX2_gather 54 = .ok (.aload_n 0, 1) := by decide +kernel
theorem dX2_gather_55 : decode cX2_gather 55 = .ok (.getfield 32, 3) := by decide +kernel
theorem dX2_gather_58 : decode cX2_gather 58 = .ok (.if_icmp .ge 39, 3) := by decide +kernel
theorem dX2_gather_61 : decode cX2_gather 61 = .ok (.iconst 0, 1) := by decide +kernel
theorem dX2_gather_62 : decode cX2_gather 62 = .ok (.istore_n 3, 1) := by decide +kernel
theorem dX2_gather_63 : decode cX2_gather 63 = .ok (.iload_n 3, 1) := by decide +kernel
theorem dX2_gather_64 : decode cX2_gather 64 = .ok (.aload_n 0, 1) := by decide +kernel
theorem dX2_gather_65 : decode cX2_gather 65 = .ok (.getfield 32, 3) := by decide +kernel
theorem dX2_gather_68 : decode cX2_gather 68 = .ok (.if_icmp .ge 23, 3) := by decide +kernel
theorem dX2_gather_71 : decode cX2_gather 71 = .ok (.aload_n 0, 1) := by decide +kernel
theorem dX2_gather_72 : decode cX2_gather 72 = .ok (.aload_n 1, 1) := by decide +kernel
theorem dX2_gather_73 : decode cX2_gather 73 = .ok (.iload_n 3, 1) := by decide +kernel
theorem dX2_gather_74 : decode cX2_gather 74 = .ok (.iconst 1, 1) := by decide +kernel
theorem dX2_gather_75 : decode cX2_gather 75 = .ok (.invokevirtual 49, 3) := by decide +kernel
theorem dX2_gather_78 : decode cX2_gather 78 = .ok (.aload_n 0, 1) := by decide +kernel
theorem dX2_gather_79 : decode cX2_gather 79 = .ok (.aload_n 1, 1) := by decide +kernel
theorem dX2_gather_80 : decode cX2_gather 80 = .ok (.iload_n 3, 1) := by decide +kernel
theorem dX2_gather_81 : decode cX2_gather 81 = .ok (.iconst 2, 1) := by decide +kernel
theorem dX2_gather_82 : decode cX2_gather 82 = .ok (.invokevirtual 49, 3) := by decide +kernel
theorem dX2_gather_85 : decode cX2_gather 85 = .ok (.iinc 3 1, 3) := by decide +kernel
theorem dX2_gather_88 : decode cX2_gather 88 = .ok (.goto (-25), 3) := by decide +kernel
theorem dX2_gather_91 : decode cX2_gather 91 = .ok (.iinc 2 1, 3) := by decide +kernel
theorem dX2_gather_94 : decode cX2_gather 94 = .ok (.goto (-41), 3) := by decide +kernel
theorem dX2_gather_97 : decode cX2_gather 97 = .ok (.return_, 1) := by decide +kernel
theorem dX2_join_0 : decode cX2_join 0 = .ok (.aload_n 1, 1) := by decide +kernel
theorem dX2_join_1 : decode cX2_join 1 = .ok (.iload_n 2, 1) := by decide +kernel
theorem dX2_join_2 : decode cX2_join 2 = .ok (.iload_n 3, 1) := by decide +kernel
theorem dX2_join_3 : decode cX2_join 3 = .ok (.invokevirtual 53, 3) := by decide +kernel
theorem dX2_join_6 : decode cX2_join 6 = .ok (.ifCond .eq 54, 3) := by decide +kernel
theorem dX2_join_9 : decode cX2_join 9 = .ok (.aload_n 1, 1) := by decide +kernel
theorem dX2_join_10 : decode cX2_join 10 = .ok (.iload_n 2, 1) := by decide +kernel
theorem dX2_join_11 : decode cX2_join 11 = .ok (.iload_n 3, 1) := by decide +kernel
theorem dX2_join_12 : decode cX2_join 12 = .ok (.invokevirtual 57, 3) := by decide +kernel
theorem dX2_join_15 : decode cX2_join 15 = .ok (.istore 4, 2) := by decide +kernel
theorem dX2_join_17 : decode cX2_join 17 = .ok (.aload_n 0, 1) := by decide +kernel
theorem dX2_join_18 : decode cX2_join 18 = .ok (.getfield 14, 3) := by decide +kernel
theorem dX2_join_21 : decode cX2_join 21 = .ok (.iload_n 2, 1) := by decide +kernel
theorem dX2_join_22 : decode cX2_join 22 = .ok (.invokevirtual 61, 3) := by decide +kernel
theorem dX2_join_25 : decode cX2_join 25 = .ok (.aload_n 0, 1) := by decide +kernel
theorem dX2_join_26 : decode cX2_join 26 = .ok (.getfield 14, 3) := by decide +kernel
theorem dX2_join_29 : decode cX2_join 29 = .ok (.iload 4, 2) := by decide +kernel
theorem dX2_join_31 : decode cX2_join 31 = .ok (.invokevirtual 61, 3) := by decide +kernel
theorem dX2_join_34 : decode cX2_join 34 = .ok (.invokestatic 65, 3) := by decide +kernel
theorem dX2_join_37 : decode cX2_join 37 = .ok (.istore 5, 2) := by decide +kernel
theorem dX2_join_39 : decode cX2_join 39 = .ok (.aload_n 0, 1) := by decide +kernel
theorem dX2_join_40 : decode cX2_join 40 = .ok (.getfield 14, 3) := by decide +kernel
theorem dX2_join_43 : decode cX2_join 43 = .ok (.iload_n 2, 1) := by decide +kernel
theorem dX2_join_44 : decode cX2_join 44 = .ok (.iload 5, 2) := by decide +kernel
theorem dX2_join_46 : decode cX2_join 46 = .ok (.invokevirtual 45, 3) := by decide +kernel
theorem dX2_join_49 : decode cX2_join 49 = .ok (.aload_n 0, 1) := by decide +kernel
theorem dX2_join_50 : decode cX2_join 50 = .ok (.getfield 14, 3) := by decide +kernel
theorem dX2_join_53 : decode cX2_join 53 = .ok (.iload 4, 2) := by decide +kernel
theorem dX2_join_55 : decode cX2_join 55 = .ok (.iload 5, 2) := by decide +kernel
theorem dX2_join_57 : decode cX2_join 57 = .ok (.invokevirtual 45, 3) := by decide +kernel
theorem dX2_join_60 : decode cX2_join 60 = .ok (.return_, 1) := by decide +kernel
theorem dX2_size_0 : decode cX2_size 0 = .ok (.aload_n 0, 1) := by decide +kernel
theorem dX2_size_1 : decode cX2_size 1 = .ok (.aload_n 0, 1) := by decide +kernel
theorem dX2_size_2 : decode cX2_size 2 = .ok (.getfield 32, 3) := by decide +kernel
theorem dX2_size_5 : decode cX2_size 5 = .ok (.invokevirtual 70, 3) := by decide +kernel
theorem dX2_size_8 : decode cX2_size 8 = .ok (.ireturn, 1) := by decide +kernel
theorem dX2_groupOf_0 : decode cX2_groupOf 0 = .ok (.aload_n 0, 1) := by decide +kernel
theorem dX2_groupOf_1 : decode cX2_groupOf 1 = .ok (.aload_n 0, 1) := by decide +kernel
theorem dX2_groupOf_2 : decode cX2_groupOf 2 = .ok (.getfield 14, 3) := by decide +kernel
theorem dX2_groupOf_5 : decode cX2_groupOf 5 = .ok (.iload_n 1, 1) := by decide +kernel
theorem dX2_groupOf_6 : decode cX2_groupOf 6 = .ok (.invokevirtual 61, 3) := by decide +kernel
theorem dX2_groupOf_9 : decode cX2_groupOf 9 = .ok (.invokevirtual 70, 3) := by decide +kernel
theorem dX2_groupOf_12 : decode cX2_groupOf 12 = .ok (.ireturn, 1) := by decide +kernel
theorem dX2_countBelow_0 : decode cX2_countBelow 0 = .ok (.iconst 0, 1) := by decide +kernel
theorem dX2_countBelow_1 : decode cX2_countBelow 1 = .ok (.istore_n 2, 1) := by decide +kernel
theorem dX2_countBelow_2 : decode cX2_countBelow 2 = .ok (.iconst 0, 1) := by decide +kernel
theorem dX2_countBelow_3 : decode cX2_countBelow 3 = .ok (.istore_n 3, 1) := by decide +kernel
theorem dX2_countBelow_4 : decode cX2_countBelow 4 = .ok (.iload_n 3, 1) := by decide +kernel
theorem dX2_countBelow_5 : decode cX2_countBelow 5 = .ok (.iload_n 1, 1) := by decide +kernel
theorem dX2_countBelow_6 : decode cX2_countBelow 6 = .ok (.if_icmp .ge 32, 3) := by decide +kernel
theorem dX2_countBelow_9 : decode cX2_countBelow 9 = .ok (.iload_n 3, 1) := by decide +kernel
theorem dX2_countBelow_10 : decode cX2_countBelow 10 = .ok (.aload_n 0, 1) := by decide +kernel
theorem dX2_countBelow_11 : decode cX2_countBelow 11 = .ok (.getfield 32, 3) := by decide +kernel
theorem dX2_countBelow_14 : decode cX2_countBelow 14 = .ok (.if_icmp .ge 24, 3) := by decide +kernel
theorem dX2_countBelow_17 : decode cX2_countBelow 17 = .ok (.aload_n 0, 1) := by decide +kernel
theorem dX2_countBelow_18 : decode cX2_countBelow 18 = .ok (.getfield 14, 3) := by decide +kernel
theorem dX2_countBelow_21 : decode cX2_countBelow 21 = .ok (.iload_n 3, 1) := by decide +kernel
theorem dX2_countBelow_22 : decode cX2_countBelow 22 = .ok (.invokevirtual 61, 3) := by decide +kernel
theorem dX2_countBelow_25 : decode cX2_countBelow 25 = .ok (.iload_n 3, 1) := by decide +kernel
theorem dX2_countBelow_26 : decode cX2_countBelow 26 = .ok (.if_icmp .ne 6, 3) := by decide +kernel
theorem dX2_countBelow_29 : decode cX2_countBelow 29 = .ok (.iinc 2 1, 3) := by decide +kernel
theorem dX2_countBelow_32 : decode cX2_countBelow 32 = .ok (.iinc 3 1, 3) := by decide +kernel
theorem dX2_countBelow_35 : decode cX2_countBelow 35 = .ok (.goto (-31), 3) := by decide +kernel
theorem dX2_countBelow_38 : decode cX2_countBelow 38 = .ok (.iload_n 2, 1) := by decide +kernel
theorem dX2_countBelow_39 : decode cX2_countBelow 39 = .ok (.ireturn, 1) := by decide +kernel
theorem dX2_scrapOf_0 : decode cX2_scrapOf 0 = .ok (.iconst 0, 1) := by decide +kernel
theorem dX2_scrapOf_1 : decode cX2_scrapOf 1 = .ok (.istore_n 3, 1) := by decide +kernel
theorem dX2_scrapOf_2 : decode cX2_scrapOf 2 = .ok (.iconst 0, 1) := by decide +kernel
theorem dX2_scrapOf_3 : decode cX2_scrapOf 3 = .ok (.istore 4, 2) := by decide +kernel
theorem dX2_scrapOf_5 : decode cX2_scrapOf 5 = .ok (.iload 4, 2) := by decide +kernel
theorem dX2_scrapOf_7 : decode cX2_scrapOf 7 = .ok (.aload_n 0, 1) := by decide +kernel
theorem dX2_scrapOf_8 : decode cX2_scrapOf 8 = .ok (.getfield 32, 3) := by decide +kernel
theorem dX2_scrapOf_11 : decode cX2_scrapOf 11 = .ok (.if_icmp .ge 43, 3) := by decide +kernel
theorem dX2_scrapOf_14 : decode cX2_scrapOf 14 = .ok (.aload_n 0, 1) := by decide +kernel
theorem dX2_scrapOf_15 : decode cX2_scrapOf 15 = .ok (.getfield 14, 3) := by decide +kernel
theorem dX2_scrapOf_18 : decode cX2_scrapOf 18 = .ok (.iload 4, 2) := by decide +kernel
theorem dX2_scrapOf_20 : decode cX2_scrapOf 20 = .ok (.invokevirtual 61, 3) := by decide +kernel
theorem dX2_scrapOf_23 : decode cX2_scrapOf 23 = .ok (.iconst (-1), 1) := by decide +kernel
theorem dX2_scrapOf_24 : decode cX2_scrapOf 24 = .ok (.if_icmp .eq 24, 3) := by decide +kernel
theorem dX2_scrapOf_27 : decode cX2_scrapOf 27 = .ok (.aload_n 0, 1) := by decide +kernel
theorem dX2_scrapOf_28 : decode cX2_scrapOf 28 = .ok (.iload 4, 2) := by decide +kernel
theorem dX2_scrapOf_30 : decode cX2_scrapOf 30 = .ok (.invokevirtual 73, 3) := by decide +kernel
theorem dX2_scrapOf_33 : decode cX2_scrapOf 33 = .ok (.iload_n 1, 1) := by decide +kernel
theorem dX2_scrapOf_34 : decode cX2_scrapOf 34 = .ok (.if_icmp .ne 14, 3) := by decide +kernel
theorem dX2_scrapOf_37 : decode cX2_scrapOf 37 = .ok (.iload_n 3, 1) := by decide +kernel
theorem dX2_scrapOf_38 : decode cX2_scrapOf 38 = .ok (.iload_n 2, 1) := by decide +kernel
theorem dX2_scrapOf_39 : decode cX2_scrapOf 39 = .ok (.if_icmp .ne 6, 3) := by decide +kernel
theorem dX2_scrapOf_42 : decode cX2_scrapOf 42 = .ok (.iload 4, 2) := by decide +kernel
theorem dX2_scrapOf_44 : decode cX2_scrapOf 44 = .ok (.ireturn, 1) := by decide +kernel
theorem dX2_scrapOf_45 : decode cX2_scrapOf 45 = .ok (.iinc 3 1, 3) := by decide +kernel
theorem dX2_scrapOf_48 : decode cX2_scrapOf 48 = .ok (.iinc 4 1, 3) := by decide +kernel
theorem dX2_scrapOf_51 : decode cX2_scrapOf 51 = .ok (.goto (-46), 3) := by decide +kernel
theorem dX2_scrapOf_54 : decode cX2_scrapOf 54 = .ok (.iconst (-1), 1) := by decide +kernel
theorem dX2_scrapOf_55 : decode cX2_scrapOf 55 = .ok (.ireturn, 1) := by decide +kernel
theorem dX3_init_0 : decode cX3_init 0 = .ok (.aload_n 0, 1) := by decide +kernel
theorem dX3_init_1 : decode cX3_init 1 = .ok (.invokespecial 3, 3) := by decide +kernel
theorem dX3_init_4 : decode cX3_init 4 = .ok (.aload_n 0, 1) := by decide +kernel
theorem dX3_init_5 : decode cX3_init 5 = .ok (.iconst 5, 1) := by decide +kernel
theorem dX3_init_6 : decode cX3_init 6 = .ok (.anewarray 9, 3) := by decide +kernel
theorem dX3_init_9 : decode cX3_init 9 = .ok (.putfield 11, 3) := by decide +kernel
theorem dX3_init_12 : decode cX3_init 12 = .ok (.iconst 0, 1) := by decide +kernel
theorem dX3_init_13 : decode cX3_init 13 = .ok (.istore_n 1, 1) := by decide +kernel
theorem dX3_init_14 : decode cX3_init 14 = .ok (.iload_n 1, 1) := by decide +kernel
theorem dX3_init_15 : decode cX3_init 15 = .ok (.aload_n 0, 1) := by decide +kernel
theorem dX3_init_16 : decode cX3_init 16 = .ok (.getfield 11, 3) := by decide +kernel
theorem dX3_init_19 : decode cX3_init 19 = .ok (.arraylength, 1) := by decide +kernel
theorem dX3_init_20 : decode cX3_init 20 = .ok (.if_icmp .ge 22, 3) := by decide +kernel
theorem dX3_init_23 : decode cX3_init 23 = .ok (.aload_n 0, 1) := by decide +kernel
theorem dX3_init_24 : decode cX3_init 24 = .ok (.getfield 11, 3) := by decide +kernel
theorem dX3_init_27 : decode cX3_init 27 = .ok (.iload_n 1, 1) := by decide +kernel
theorem dX3_init_28 : decode cX3_init 28 = .ok (.new 9, 3) := by decide +kernel
theorem dX3_init_31 : decode cX3_init 31 = .ok (.dup, 1) := by decide +kernel
theorem dX3_init_32 : decode cX3_init 32 = .ok (.invokespecial 17, 3) := by decide +kernel
theorem dX3_init_35 : decode cX3_init 35 = .ok (.aastore, 1) := by decide +kernel
theorem dX3_init_36 : decode cX3_init 36 = .ok (.iinc 1 1, 3) := by decide +kernel
theorem dX3_init_39 : decode cX3_init 39 = .ok (.goto (-25), 3) := by decide +kernel
theorem dX3_init_42 : decode cX3_init 42 = .ok (.return_, 1) := by decide +kernel
theorem dX3_size_0 : decode cX3_size 0 = .ok (.aload_n 0, 1) := by decide +kernel
theorem dX3_size_1 : decode cX3_size 1 = .ok (.getfield 18, 3) := by decide +kernel
theorem dX3_size_4 : decode cX3_size 4 = .ok (.ireturn, 1) := by decide +kernel
theorem dX3_keep_0 : decode cX3_keep 0 = .ok (.aload_n 0, 1) := by decide +kernel
theorem dX3_keep_1 : decode cX3_keep 1 = .ok (.getfield 18, 3) := by decide +kernel
theorem dX3_keep_4 : decode cX3_keep 4 = .ok (.iconst 5, 1) := by decide +kernel
theorem dX3_keep_5 : decode cX3_keep 5 = .ok (.if_icmp .lt 25, 3) := by decide +kernel
theorem dX3_keep_8 : decode cX3_keep 8 = .ok (.aload_n 0, 1) := by decide +kernel
theorem dX3_keep_9 : decode cX3_keep 9 = .ok (.aload_n 0, 1) := by decide +kernel
theorem dX3_keep_10 : decode cX3_keep 10 = .ok (.getfield 22, 3) := by decide +kernel
theorem dX3_keep_13 : decode cX3_keep 13 = .ok (.iconst 1, 1) := by decide +kernel
theorem dX3_keep_14 : decode cX3_keep 14 = .ok (.iadd, 1) := by decide +kernel
theorem dX3_keep_15 : decode cX3_keep 15 = .ok (.iconst 5, 1) := by decide +kernel
theorem dX3_keep_16 : decode cX3_keep 16 = .ok (.irem, 1) := by decide +kernel
theorem dX3_keep_17 : decode cX3_keep 17 = .ok (.putfield 22, 3) := by decide +kernel
theorem dX3_keep_20 : decode cX3_keep 20 = .ok (.aload_n 0, 1) := by decide +kernel
theorem dX3_keep_21 : decode cX3_keep 21 = .ok (.dup, 1) := by decide +kernel
theorem dX3_keep_22 : decode cX3_keep 22 = .ok (.getfield 18, 3) := by decide +kernel
theorem dX3_keep_25 : decode cX3_keep 25 = .ok (.iconst 1, 1) := by decide +kernel
theorem dX3_keep_26 : decode cX3_keep 26 = .ok (.isub, 1) := by decide +kernel
theorem dX3_keep_27 : decode cX3_keep 27 = .ok (.putfield 18, 3) := by decide +kernel
theorem dX3_keep_30 : decode cX3_keep 30 = .ok (.aload_n 0, 1) := by decide +kernel
theorem dX3_keep_31 : decode cX3_keep 31 = .ok (.aload_n 0, 1) := by decide +kernel
theorem dX3_keep_32 : decode cX3_keep 32 = .ok (.getfield 18, 3) := by decide +kernel
theorem dX3_keep_35 : decode cX3_keep 35 = .ok (.invokevirtual 25, 3) := by decide +kernel
theorem dX3_keep_38 : decode cX3_keep 38 = .ok (.astore_n 2, 1) := by decide +kernel
theorem dX3_keep_39 : decode cX3_keep 39 = .ok (.aload_n 2, 1) := by decide +kernel
theorem dX3_keep_40 : decode cX3_keep 40 = .ok (.ifnull 18, 3) := by decide +kernel
theorem dX3_keep_43 : decode cX3_keep 43 = .ok (.aload_n 2, 1) := by decide +kernel
theorem dX3_keep_44 : decode cX3_keep 44 = .ok (.aload_n 1, 1) := by decide +kernel
theorem dX3_keep_45 : decode cX3_keep 45 = .ok (.invokevirtual 29, 3) := by decide +kernel
theorem dX3_keep_48 : decode cX3_keep 48 = .ok (.aload_n 0, 1) := by decide +kernel
theorem dX3_keep_49 : decode cX3_keep 49 = .ok (.dup, 1) := by decide +kernel
theorem dX3_keep_50 : decode cX3_keep 50 = .ok (.getfield 18, 3) := by decide +kernel
theorem dX3_keep_53 : decode cX3_keep 53 = .ok (.iconst 1, 1) := by decide +kernel
theorem dX3_keep_54 : decode cX3_keep 54 = .ok (.iadd, 1) := by decide +kernel
theorem dX3_keep_55 : decode cX3_keep 55 = .ok (.putfield 18, 3) := by decide +kernel
theorem dX3_keep_58 : decode cX3_keep 58 = .ok (.return_, 1) := by decide +kernel
theorem dX3_restore_0 : decode cX3_restore 0 = .ok (.aload_n 0, 1) := by decide +kernel
theorem dX3_restore_1 : decode cX3_restore 1 = .ok (.aload_n 0, 1) := by decide +kernel
theorem dX3_restore_2 : decode cX3_restore 2 = .ok (.getfield 18, 3) := by decide +kernel
theorem dX3_restore_5 : decode cX3_restore 5 = .ok (.iconst 1, 1) := by decide +kernel
theorem dX3_restore_6 : decode cX3_restore 6 = .ok (.isub, 1) := by decide +kernel
theorem dX3_restore_7 : decode cX3_restore 7 = .ok (.invokevirtual 25, 3) := by decide +kernel
theorem dX3_restore_10 : decode cX3_restore 10 = .ok (.astore_n 2, 1) := by decide +kernel
theorem dX3_restore_11 : decode cX3_restore 11 = .ok (.aload_n 2, 1) := by decide +kernel
theorem dX3_restore_12 : decode cX3_restore 12 = .ok (.ifnull 18, 3) := by decide +kernel
theorem dX3_restore_15 : decode cX3_restore 15 = .ok (.aload_n 1, 1) := by decide +kernel
theorem dX3_restore_16 : decode cX3_restore 16 = .ok (.aload_n 2, 1) := by decide +kernel
theorem dX3_restore_17 : decode cX3_restore 17 = .ok (.invokevirtual 29, 3) := by decide +kernel
theorem dX3_restore_20 : decode cX3_restore 20 = .ok (.aload_n 0, 1) := by decide +kernel
theorem dX3_restore_21 : decode cX3_restore 21 = .ok (.dup, 1) := by decide +kernel
theorem dX3_restore_22 : decode cX3_restore 22 = .ok (.getfield 18, 3) := by decide +kernel
theorem dX3_restore_25 : decode cX3_restore 25 = .ok (.iconst 1, 1) := by decide +kernel
theorem dX3_restore_26 : decode cX3_restore 26 = .ok (.isub, 1) := by decide +kernel
theorem dX3_restore_27 : decode cX3_restore 27 = .ok (.putfield 18, 3) := by decide +kernel
theorem dX3_restore_30 : decode cX3_restore 30 = .ok (.return_, 1) := by decide +kernel
theorem dX3_state_0 : decode cX3_state 0 = .ok (.aload_n 0, 1) := by decide +kernel
theorem dX3_state_1 : decode cX3_state 1 = .ok (.getfield 22, 3) := by decide +kernel
theorem dX3_state_4 : decode cX3_state 4 = .ok (.iload_n 1, 1) := by decide +kernel
theorem dX3_state_5 : decode cX3_state 5 = .ok (.iadd, 1) := by decide +kernel
theorem dX3_state_6 : decode cX3_state 6 = .ok (.iconst 5, 1) := by decide +kernel
theorem dX3_state_7 : decode cX3_state 7 = .ok (.irem, 1) := by decide +kernel
theorem dX3_state_8 : decode cX3_state 8 = .ok (.istore_n 2, 1) := by decide +kernel
theorem dX3_state_9 : decode cX3_state 9 = .ok (.iload_n 1, 1) := by decide +kernel
theorem dX3_state_10 : decode cX3_state 10 = .ok (.ifCond .lt 25, 3) := by decide +kernel
theorem dX3_state_13 : decode cX3_state 13 = .ok (.iload_n 2, 1) := by decide +kernel
theorem dX3_state_14 : decode cX3_state 14 = .ok (.ifCond .lt 21, 3) := by decide +kernel
theorem dX3_state_17 : decode cX3_state 17 = .ok (.iload_n 2, 1) := by decide +kernel
theorem dX3_state_18 : decode cX3_state 18 = .ok (.aload_n 0, 1) := by decide +kernel
theorem dX3_state_19 : decode cX3_state 19 = .ok (.getfield 11, 3) := by decide +kernel
theorem dX3_state_22 : decode cX3_state 22 = .ok (.arraylength, 1) := by decide +kernel
theorem dX3_state_23 : decode cX3_state 23 = .ok (.if_icmp .ge 12, 3) := by decide +kernel
theorem dX3_state_26 : decode cX3_state 26 = .ok (.aload_n 0, 1) := by decide +kernel
theorem dX3_state_27 : decode cX3_state 27 = .ok (.getfield 11, 3) := by decide +kernel
theorem dX3_state_30 : decode cX3_state 30 = .ok (.iload_n 2, 1) := by decide +kernel
theorem dX3_state_31 : decode cX3_state 31 = .ok (.aaload, 1) := by decide +kernel
theorem dX3_state_32 : decode cX3_state 32 = .ok (.goto 4, 3) := by decide +kernel
theorem dX3_state_35 : decode cX3_state 35 = .ok (.aconst_null, 1) := by decide +kernel
theorem dX3_state_36 : decode cX3_state 36 = .ok (.areturn, 1) := by decide +kernel
theorem dX4_init_0 : decode cX4_init 0 = .ok (.aload_n 0, 1) := by decide +kernel
theorem dX4_init_1 : decode cX4_init 1 = .ok (.invokespecial 3, 3) := by decide +kernel
end
section
theorem dX4_init_4 : decode cX4_init 4 = .ok (.aload_n 0, 1) := by decide +kernel
theorem dX4_init_5 : decode cX4_init 5 = .ok (.new 9, 3) := by decide +kernel
theorem dX4_init_8 : decode cX4_init 8 = .ok (.dup, 1) := by decide +kernel
theorem dX4_init_9 : decode cX4_init 9 = .ok (.bipush 12, 2) := by decide +kernel
theorem dX4_init_11 : decode cX4_init 11 = .ok (.invokespecial 11, 3) := by decide +kernel
theorem dX4_init_14 : decode cX4_init 14 = .ok (.putfield 14, 3) := by decide +kernel
theorem dX4_init_17 : decode cX4_init 17 = .ok (.aload_n 0, 1) := by decide +kernel
theorem dX4_init_18 : decode cX4_init 18 = .ok (.new 9, 3) := by decide +kernel
theorem dX4_init_21 : decode cX4_init 21 = .ok (.dup, 1) := by decide +kernel
theorem dX4_init_22 : decode cX4_init 22 = .ok (.bipush 12, 2) := by decide +kernel
theorem dX4_init_24 : decode cX4_init 24 = .ok (.invokespecial 11, 3) := by decide +kernel
theorem dX4_init_27 : decode cX4_init 27 = .ok (.putfield 20, 3) := by decide +kernel
theorem dX4_init_30 : decode cX4_init 30 = .ok (.aload_n 0, 1) := by decide +kernel
theorem dX4_init_31 : decode cX4_init 31 = .ok (.new 9, 3) := by decide +kernel
theorem dX4_init_34 : decode cX4_init 34 = .ok (.dup, 1) := by decide +kernel
theorem dX4_init_35 : decode cX4_init 35 = .ok (.bipush 36, 2) := by decide +kernel
theorem dX4_init_37 : decode cX4_init 37 = .ok (.invokespecial 11, 3) := by decide +kernel
theorem dX4_init_40 : decode cX4_init 40 = .ok (.putfield 23, 3) := by decide +kernel
theorem dX4_init_43 : decode cX4_init 43 = .ok (.aload_n 0, 1) := by decide +kernel
theorem dX4_init_44 : decode cX4_init 44 = .ok (.iconst 4, 1) := by decide +kernel
theorem dX4_init_45 : decode cX4_init 45 = .ok (.iconst 4, 1) := by decide +kernel
theorem dX4_init_46 : decode cX4_init 46 = .ok (.invokevirtual 26, 3) := by decide +kernel
theorem dX4_init_49 : decode cX4_init 49 = .ok (.return_, 1) := by decide +kernel
theorem dX4_width_0 : decode cX4_width 0 = .ok (.aload_n 0, 1) := by decide +kernel
theorem dX4_width_1 : decode cX4_width 1 = .ok (.getfield 30, 3) := by decide +kernel
theorem dX4_width_4 : decode cX4_width 4 = .ok (.ireturn, 1) := by decide +kernel
theorem dX4_height_0 : decode cX4_height 0 = .ok (.aload_n 0, 1) := by decide +kernel
theorem dX4_height_1 : decode cX4_height 1 = .ok (.getfield 34, 3) := by decide +kernel
theorem dX4_height_4 : decode cX4_height 4 = .ok (.ireturn, 1) := by decide +kernel
theorem dX4_places_0 : decode cX4_places 0 = .ok (.aload_n 0, 1) := by decide +kernel
theorem dX4_places_1 : decode cX4_places 1 = .ok (.getfield 30, 3) := by decide +kernel
theorem dX4_places_4 : decode cX4_places 4 = .ok (.aload_n 0, 1) := by decide +kernel
theorem dX4_places_5 : decode cX4_places 5 = .ok (.getfield 34, 3) := by decide +kernel
theorem dX4_places_8 : decode cX4_places 8 = .ok (.imul, 1) := by decide +kernel
theorem dX4_places_9 : decode cX4_places 9 = .ok (.ireturn, 1) := by decide +kernel
theorem dX4_lies_0 : decode cX4_lies 0 = .ok (.aload_n 0, 1) := by decide +kernel
theorem dX4_lies_1 : decode cX4_lies 1 = .ok (.getfield 14, 3) := by decide +kernel
theorem dX4_lies_4 : decode cX4_lies 4 = .ok (.iload_n 1, 1) := by decide +kernel
theorem dX4_lies_5 : decode cX4_lies 5 = .ok (.invokevirtual 37, 3) := by decide +kernel
theorem dX4_lies_8 : decode cX4_lies 8 = .ok (.iconst (-1), 1) := by decide +kernel
theorem dX4_lies_9 : decode cX4_lies 9 = .ok (.if_icmp .eq 7, 3) := by decide +kernel
theorem dX4_lies_12 : decode cX4_lies 12 = .ok (.iconst 1, 1) := by decide +kernel
theorem dX4_lies_13 : decode cX4_lies 13 = .ok (.goto 4, 3) := by decide +kernel
theorem dX4_lies_16 : decode cX4_lies 16 = .ok (.iconst 0, 1) := by decide +kernel
theorem dX4_lies_17 : decode cX4_lies 17 = .ok (.ireturn, 1) := by decide +kernel
theorem dX4_placeOf_0 : decode cX4_placeOf 0 = .ok (.aload_n 0, 1) := by decide +kernel
theorem dX4_placeOf_1 : decode cX4_placeOf 1 = .ok (.getfield 14, 3) := by decide +kernel
theorem dX4_placeOf_4 : decode cX4_placeOf 4 = .ok (.iload_n 1, 1) := by decide +kernel
theorem dX4_placeOf_5 : decode cX4_placeOf 5 = .ok (.invokevirtual 37, 3) := by decide +kernel
theorem dX4_placeOf_8 : decode cX4_placeOf 8 = .ok (.ireturn, 1) := by decide +kernel
theorem dX4_orientationOf_0 : decode cX4_orientationOf 0 = .ok (.aload_n 0, 1) := by decide +kernel
theorem dX4_orientationOf_1 : decode cX4_orientationOf 1 = .ok (.getfield 20, 3) := by decide +kernel
theorem dX4_orientationOf_4 : decode cX4_orientationOf 4 = .ok (.iload_n 1, 1) := by decide +kernel
theorem dX4_orientationOf_5 : decode cX4_orientationOf 5 = .ok (.invokevirtual 37, 3) := by decide +kernel
theorem dX4_orientationOf_8 : decode cX4_orientationOf 8 = .ok (.ireturn, 1) := by decide +kernel
theorem dX4_scrapAt_0 : decode cX4_scrapAt 0 = .ok (.aload_n 0, 1) := by decide +kernel
theorem dX4_scrapAt_1 : decode cX4_scrapAt 1 = .ok (.getfield 23, 3) := by decide +kernel
theorem dX4_scrapAt_4 : decode cX4_scrapAt 4 = .ok (.iload_n 1, 1) := by decide +kernel
theorem dX4_scrapAt_5 : decode cX4_scrapAt 5 = .ok (.invokevirtual 37, 3) := by decide +kernel
theorem dX4_scrapAt_8 : decode cX4_scrapAt 8 = .ok (.ireturn, 1) := by decide +kernel
theorem dX4_clear_0 : decode cX4_clear 0 = .ok (.aload_n 0, 1) := by decide +kernel
theorem dX4_clear_1 : decode cX4_clear 1 = .ok (.iload_n 1, 1) := by decide +kernel
theorem dX4_clear_2 : decode cX4_clear 2 = .ok (.putfield 30, 3) := by decide +kernel
theorem dX4_clear_5 : decode cX4_clear 5 = .ok (.aload_n 0, 1) := by decide +kernel
theorem dX4_clear_6 : decode cX4_clear 6 = .ok (.iload_n 2, 1) := by decide +kernel
theorem dX4_clear_7 : decode cX4_clear 7 = .ok (.putfield 34, 3) := by decide +kernel
theorem dX4_clear_10 : decode cX4_clear 10 = .ok (.aload_n 0, 1) := by decide +kernel
theorem dX4_clear_11 : decode cX4_clear 11 = .ok (.getfield 14, 3) := by decide +kernel
theorem dX4_clear_14 : decode cX4_clear 14 = .ok (.iconst (-1), 1) := by decide +kernel
theorem dX4_clear_15 : decode cX4_clear 15 = .ok (.invokevirtual 41, 3) := by decide +kernel
theorem dX4_clear_18 : decode cX4_clear 18 = .ok (.aload_n 0, 1) := by decide +kernel
theorem dX4_clear_19 : decode cX4_clear 19 = .ok (.getfield 20, 3) := by decide +kernel
theorem dX4_clear_22 : decode cX4_clear 22 = .ok (.iconst 0, 1) := by decide +kernel
theorem dX4_clear_23 : decode cX4_clear 23 = .ok (.invokevirtual 41, 3) := by decide +kernel
theorem dX4_clear_26 : decode cX4_clear 26 = .ok (.aload_n 0, 1) := by decide +kernel
theorem dX4_clear_27 : decode cX4_clear 27 = .ok (.getfield 23, 3) := by decide +kernel
theorem dX4_clear_30 : decode cX4_clear 30 = .ok (.iconst (-1), 1) := by decide +kernel
theorem dX4_clear_31 : decode cX4_clear 31 = .ok (.invokevirtual 41, 3) := by decide +kernel
theorem dX4_clear_34 : decode cX4_clear 34 = .ok (.return_, 1) := by decide +kernel
theorem dX4_put_0 : decode cX4_put 0 = .ok (.aload_n 0, 1) := by decide +kernel
theorem dX4_put_1 : decode cX4_put 1 = .ok (.getfield 14, 3) := by decide +kernel
theorem dX4_put_4 : decode cX4_put 4 = .ok (.iload_n 1, 1) := by decide +kernel
theorem dX4_put_5 : decode cX4_put 5 = .ok (.iload_n 2, 1) := by decide +kernel
theorem dX4_put_6 : decode cX4_put 6 = .ok (.invokevirtual 44, 3) := by decide +kernel
theorem dX4_put_9 : decode cX4_put 9 = .ok (.aload_n 0, 1) := by decide +kernel
theorem dX4_put_10 : decode cX4_put 10 = .ok (.getfield 20, 3) := by decide +kernel
theorem dX4_put_13 : decode cX4_put 13 = .ok (.iload_n 1, 1) := by decide +kernel
theorem dX4_put_14 : decode cX4_put 14 = .ok (.iload_n 3, 1) := by decide +kernel
theorem dX4_put_15 : decode cX4_put 15 = .ok (.invokevirtual 44, 3) := by decide +kernel
theorem dX4_put_18 : decode cX4_put 18 = .ok (.aload_n 0, 1) := by decide +kernel
theorem dX4_put_19 : decode cX4_put 19 = .ok (.getfield 23, 3) := by decide +kernel
theorem dX4_put_22 : decode cX4_put 22 = .ok (.iload_n 2, 1) := by decide +kernel
theorem dX4_put_23 : decode cX4_put 23 = .ok (.iload_n 1, 1) := by decide +kernel
theorem dX4_put_24 : decode cX4_put 24 = .ok (.invokevirtual 44, 3) := by decide +kernel
theorem dX4_put_27 : decode cX4_put 27 = .ok (.return_, 1) := by decide +kernel
theorem dX4_take_0 : decode cX4_take 0 = .ok (.aload_n 0, 1) := by decide +kernel
theorem dX4_take_1 : decode cX4_take 1 = .ok (.getfield 23, 3) := by decide +kernel
theorem dX4_take_4 : decode cX4_take 4 = .ok (.aload_n 0, 1) := by decide +kernel
theorem dX4_take_5 : decode cX4_take 5 = .ok (.getfield 14, 3) := by decide +kernel
theorem dX4_take_8 : decode cX4_take 8 = .ok (.iload_n 1, 1) := by decide +kernel
theorem dX4_take_9 : decode cX4_take 9 = .ok (.invokevirtual 37, 3) := by decide +kernel
theorem dX4_take_12 : decode cX4_take 12 = .ok (.iconst (-1), 1) := by decide +kernel
theorem dX4_take_13 : decode cX4_take 13 = .ok (.invokevirtual 44, 3) := by decide +kernel
theorem dX4_take_16 : decode cX4_take 16 = .ok (.aload_n 0, 1) := by decide +kernel
theorem dX4_take_17 : decode cX4_take 17 = .ok (.getfield 14, 3) := by decide +kernel
theorem dX4_take_20 : decode cX4_take 20 = .ok (.iload_n 1, 1) := by decide +kernel
theorem dX4_take_21 : decode cX4_take 21 = .ok (.iconst (-1), 1) := by decide +kernel
theorem dX4_take_22 : decode cX4_take 22 = .ok (.invokevirtual 44, 3) := by decide +kernel
theorem dX4_take_25 : decode cX4_take 25 = .ok (.aload_n 0, 1) := by decide +kernel
theorem dX4_take_26 : decode cX4_take 26 = .ok (.getfield 20, 3) := by decide +kernel
theorem dX4_take_29 : decode cX4_take 29 = .ok (.iload_n 1, 1) := by decide +kernel
theorem dX4_take_30 : decode cX4_take 30 = .ok (.iconst 0, 1) := by decide +kernel
theorem dX4_take_31 : decode cX4_take 31 = .ok (.invokevirtual 44, 3) := by decide +kernel
theorem dX4_take_34 : decode cX4_take 34 = .ok (.return_, 1) := by decide +kernel
theorem dX4_remove_0 : decode cX4_remove 0 = .ok (.aload_n 0, 1) := by decide +kernel
theorem dX4_remove_1 : decode cX4_remove 1 = .ok (.getfield 14, 3) := by decide +kernel
theorem dX4_remove_4 : decode cX4_remove 4 = .ok (.iload_n 1, 1) := by decide +kernel
theorem dX4_remove_5 : decode cX4_remove 5 = .ok (.iconst 1, 1) := by decide +kernel
theorem dX4_remove_6 : decode cX4_remove 6 = .ok (.invokevirtual 47, 3) := by decide +kernel
theorem dX4_remove_9 : decode cX4_remove 9 = .ok (.aload_n 0, 1) := by decide +kernel
theorem dX4_remove_10 : decode cX4_remove 10 = .ok (.getfield 14, 3) := by decide +kernel
theorem dX4_remove_13 : decode cX4_remove 13 = .ok (.bipush 11, 2) := by decide +kernel
theorem dX4_remove_15 : decode cX4_remove 15 = .ok (.iconst (-1), 1) := by decide +kernel
theorem dX4_remove_16 : decode cX4_remove 16 = .ok (.invokevirtual 44, 3) := by decide +kernel
theorem dX4_remove_19 : decode cX4_remove 19 = .ok (.aload_n 0, 1) := by decide +kernel
theorem dX4_remove_20 : decode cX4_remove 20 = .ok (.getfield 20, 3) := by decide +kernel
theorem dX4_remove_23 : decode cX4_remove 23 = .ok (.iload_n 1, 1) := by decide +kernel
theorem dX4_remove_24 : decode cX4_remove 24 = .ok (.iconst 1, 1) := by decide +kernel
theorem dX4_remove_25 : decode cX4_remove 25 = .ok (.invokevirtual 47, 3) := by decide +kernel
theorem dX4_remove_28 : decode cX4_remove 28 = .ok (.aload_n 0, 1) := by decide +kernel
theorem dX4_remove_29 : decode cX4_remove 29 = .ok (.getfield 20, 3) := by decide +kernel
theorem dX4_remove_32 : decode cX4_remove 32 = .ok (.bipush 11, 2) := by decide +kernel
theorem dX4_remove_34 : decode cX4_remove 34 = .ok (.iconst 0, 1) := by decide +kernel
theorem dX4_remove_35 : decode cX4_remove 35 = .ok (.invokevirtual 44, 3) := by decide +kernel
theorem dX4_remove_38 : decode cX4_remove 38 = .ok (.aload_n 0, 1) := by decide +kernel
theorem dX4_remove_39 : decode cX4_remove 39 = .ok (.getfield 23, 3) := by decide +kernel
theorem dX4_remove_42 : decode cX4_remove 42 = .ok (.iconst (-1), 1) := by decide +kernel
theorem dX4_remove_43 : decode cX4_remove 43 = .ok (.invokevirtual 41, 3) := by decide +kernel
theorem dX4_remove_46 : decode cX4_remove 46 = .ok (.iconst 0, 1) := by decide +kernel
theorem dX4_remove_47 : decode cX4_remove 47 = .ok (.istore_n 2, 1) := by decide +kernel
theorem dX4_remove_48 : decode cX4_remove 48 = .ok (.iload_n 2, 1) := by decide +kernel
theorem dX4_remove_49 : decode cX4_remove 49 = .ok (.bipush 12, 2) := by decide +kernel
theorem dX4_remove_51 : decode cX4_remove 51 = .ok (.if_icmp .ge 25, 3) := by decide +kernel
theorem dX4_remove_54 : decode cX4_remove 54 = .ok (.aload_n 0, 1) := by decide +kernel
theorem dX4_remove_55 : decode cX4_remove 55 = .ok (.getfield 23, 3) := by decide +kernel
theorem dX4_remove_58 : decode cX4_remove 58 = .ok (.aload_n 0, 1) := by decide +kernel
theorem dX4_remove_59 : decode cX4_remove 59 = .ok (.getfield 14, 3) := by decide +kernel
theorem dX4_remove_62 : decode cX4_remove 62 = .ok (.iload_n 2, 1) := by decide +kernel
theorem dX4_remove_63 : decode cX4_remove 63 = .ok (.invokevirtual 37, 3) := by decide +kernel
theorem dX4_remove_66 : decode cX4_remove 66 = .ok (.iload_n 2, 1) := by decide +kernel
theorem dX4_remove_67 : decode cX4_remove 67 = .ok (.invokevirtual 44, 3) := by decide +kernel
theorem dX4_remove_70 : decode cX4_remove 70 = .ok (.iinc 2 1, 3) := by decide +kernel
theorem dX4_remove_73 : decode cX4_remove 73 = .ok (.goto (-25), 3) := by decide +kernel
theorem dX4_remove_76 : decode cX4_remove 76 = .ok (.return_, 1) := by decide +kernel
theorem dX4_copy_0 : decode cX4_copy 0 = .ok (.aload_n 0, 1) := by decide +kernel
theorem dX4_copy_1 : decode cX4_copy 1 = .ok (.aload_n 1, 1) := by decide +kernel
theorem dX4_copy_2 : decode cX4_copy 2 = .ok (.getfield 30, 3) := by decide +kernel
theorem dX4_copy_5 : decode cX4_copy 5 = .ok (.putfield 30, 3) := by decide +kernel
theorem dX4_copy_8 : decode cX4_copy 8 = .ok (.aload_n 0, 1) := by decide +kernel
theorem dX4_copy_9 : decode cX4_copy 9 = .ok (.aload_n 1, 1) := by decide +kernel
theorem dX4_copy_10 : decode cX4_copy 10 = .ok (.getfield 34, 3) := by decide +kernel
theorem dX4_copy_13 : decode cX4_copy 13 = .ok (.putfield 34, 3) := by decide +kernel
theorem dX4_copy_16 : decode cX4_copy 16 = .ok (.aload_n 0, 1) := by decide +kernel
theorem dX4_copy_17 : decode cX4_copy 17 = .ok (.getfield 14, 3) := by decide +kernel
theorem dX4_copy_20 : decode cX4_copy 20 = .ok (.aload_n 1, 1) := by decide +kernel
theorem dX4_copy_21 : decode cX4_copy 21 = .ok (.getfield 14, 3) := by decide +kernel
theorem dX4_copy_24 : decode cX4_copy 24 = .ok (.invokevirtual 50, 3) := by decide +kernel
theorem dX4_copy_27 : decode cX4_copy 27 = .ok (.aload_n 0, 1) := by decide +kernel
theorem dX4_copy_28 : decode cX4_copy 28 = .ok (.getfield 20, 3) := by decide +kernel
theorem dX4_copy_31 : decode cX4_copy 31 = .ok (.aload_n 1, 1) := by decide +kernel
theorem dX4_copy_32 : decode cX4_copy 32 = .ok (.getfield 20, 3) := by decide +kernel
theorem dX4_copy_35 : decode cX4_copy 35 = .ok (.invokevirtual 50, 3) := by decide +kernel
theorem dX4_copy_38 : decode cX4_copy 38 = .ok (.aload_n 0, 1) := by decide +kernel
theorem dX4_copy_39 : decode cX4_copy 39 = .ok (.getfield 23, 3) := by decide +kernel
theorem dX4_copy_42 : decode cX4_copy 42 = .ok (.aload_n 1, 1) := by decide +kernel
theorem dX4_copy_43 : decode cX4_copy 43 = .ok (.getfield 23, 3) := by decide +kernel
theorem dX4_copy_46 : decode cX4_copy 46 = .ok (.invokevirtual 50, 3) := by decide +kernel
theorem dX4_copy_49 : decode cX4_copy 49 = .ok (.return_, 1) := by decide +kernel
theorem dX4_behind_0 : decode cX4_behind 0 = .ok (.aload_n 0, 1) := by decide +kernel
theorem dX4_behind_1 : decode cX4_behind 1 = .ok (.getfield 30, 3) := by decide +kernel
theorem dX4_behind_4 : decode cX4_behind 4 = .ok (.ifCond .le 12, 3) := by decide +kernel
theorem dX4_behind_7 : decode cX4_behind 7 = .ok (.iload_n 1, 1) := by decide +kernel
theorem dX4_behind_8 : decode cX4_behind 8 = .ok (.aload_n 0, 1) := by decide +kernel
theorem dX4_behind_9 : decode cX4_behind 9 = .ok (.getfield 30, 3) := by decide +kernel
theorem dX4_behind_12 : decode cX4_behind 12 = .ok (.irem, 1) := by decide +kernel
theorem dX4_behind_13 : decode cX4_behind 13 = .ok (.goto 4, 3) := by decide +kernel
theorem dX4_behind_16 : decode cX4_behind 16 = .ok (.iconst 0, 1) := by decide +kernel
theorem dX4_behind_17 : decode cX4_behind 17 = .ok (.istore_n 3, 1) := by decide +kernel
theorem dX4_behind_18 : decode cX4_behind 18 = .ok (.iload_n 2, 1) := by decide +kernel
theorem dX4_behind_19 : decode cX4_behind 19 = .ok (.tableswitch 86 0 2 #[25, 44, 62], 25) := by decide +kernel
theorem dX4_behind_44 : decode cX4_behind 44 = .ok (.iload_n 1, 1) := by decide +kernel
theorem dX4_behind_45 : decode cX4_behind 45 = .ok (.aload_n 0, 1) := by decide +kernel
theorem dX4_behind_46 : decode cX4_behind 46 = .ok (.getfield 30, 3) := by decide +kernel
theorem dX4_behind_49 : decode cX4_behind 49 = .ok (.if_icmp .lt 12, 3) := by decide +kernel
theorem dX4_behind_52 : decode cX4_behind 52 = .ok (.iload_n 1, 1) := by decide +kernel
theorem dX4_behind_53 : decode cX4_behind 53 = .ok (.aload_n 0, 1) := by decide +kernel
theorem dX4_behind_54 : decode cX4_behind 54 = .ok (.getfield 30, 3) := by decide +kernel
theorem dX4_behind_57 : decode cX4_behind 57 = .ok (.isub, 1) := by decide +kernel
theorem dX4_behind_58 : decode cX4_behind 58 = .ok (.goto 4, 3) := by decide +kernel
theorem dX4_behind_61 : decode cX4_behind 61 = .ok (.iconst (-1), 1) := by decide +kernel
theorem dX4_behind_62 : decode cX4_behind 62 = .ok (.ireturn, 1) := by decide +kernel
theorem dX4_behind_63 : decode cX4_behind 63 = .ok (.iload_n 3, 1) := by decide +kernel
theorem dX4_behind_64 : decode cX4_behind 64 = .ok (.iconst 1, 1) := by decide +kernel
theorem dX4_behind_65 : decode cX4_behind 65 = .ok (.iadd, 1) := by decide +kernel
theorem dX4_behind_66 : decode cX4_behind 66 = .ok (.aload_n 0, 1) := by decide +kernel
theorem dX4_behind_67 : decode cX4_behind 67 = .ok (.getfield 30, 3) := by decide +kernel
theorem dX4_behind_70 : decode cX4_behind 70 = .ok (.if_icmp .ge 9, 3) := by decide +kernel
theorem dX4_behind_73 : decode cX4_behind 73 = .ok (.iload_n 1, 1) := by decide +kernel
theorem dX4_behind_74 : decode cX4_behind 74 = .ok (.iconst 1, 1) := by decide +kernel
theorem dX4_behind_75 : decode cX4_behind 75 = .ok (.iadd, 1) := by decide +kernel
theorem dX4_behind_76 : decode cX4_behind 76 = .ok (.goto 4, 3) := by decide +kernel
theorem dX4_behind_79 : decode cX4_behind 79 = .ok (.iconst (-1), 1) := by decide +kernel
theorem dX4_behind_80 : decode cX4_behind 80 = .ok (.ireturn, 1) := by decide +kernel
theorem dX4_behind_81 : decode cX4_behind 81 = .ok (.iload_n 1, 1) := by decide +kernel
theorem dX4_behind_82 : decode cX4_behind 82 = .ok (.aload_n 0, 1) := by decide +kernel
theorem dX4_behind_83 : decode cX4_behind 83 = .ok (.getfield 30, 3) := by decide +kernel
theorem dX4_behind_86 : decode cX4_behind 86 = .ok (.iadd, 1) := by decide +kernel
theorem dX4_behind_87 : decode cX4_behind 87 = .ok (.aload_n 0, 1) := by decide +kernel
theorem dX4_behind_88 : decode cX4_behind 88 = .ok (.invokevirtual 54, 3) := by decide +kernel
theorem dX4_behind_91 : decode cX4_behind 91 = .ok (.if_icmp .ge 12, 3) := by decide +kernel
theorem dX4_behind_94 : decode cX4_behind 94 = .ok (.iload_n 1, 1) := by decide +kernel
theorem dX4_behind_95 : decode cX4_behind 95 = .ok (.aload_n 0, 1) := by decide +kernel
theorem dX4_behind_96 : decode cX4_behind 96 = .ok (.getfield 30, 3) := by decide +kernel
theorem dX4_behind_99 : decode cX4_behind 99 = .ok (.iadd, 1) := by decide +kernel
theorem dX4_behind_100 : decode cX4_behind 100 = .ok (.goto 4, 3) := by decide +kernel
theorem dX4_behind_103 : decode cX4_behind 103 = .ok (.iconst (-1), 1) := by decide +kernel
theorem dX4_behind_104 : decode cX4_behind 104 = .ok (.ireturn, 1) := by decide +kernel
theorem dX4_behind_105 : decode cX4_behind 105 = .ok (.iload_n 3, 1) := by decide +kernel
theorem dX4_behind_106 : decode cX4_behind 106 = .ok (.ifCond .le 9, 3) := by decide +kernel
theorem dX4_behind_109 : decode cX4_behind 109 = .ok (.iload_n 1, 1) := by decide +kernel
theorem dX4_behind_110 : decode cX4_behind 110 = .ok (.iconst 1, 1) := by decide +kernel
theorem dX4_behind_111 : decode cX4_behind 111 = .ok (.isub, 1) := by decide +kernel
theorem dX4_behind_112 : decode cX4_behind 112 = .ok (.goto 4, 3) := by decide +kernel
theorem dX4_behind_115 : decode cX4_behind 115 = .ok (.iconst (-1), 1) := by decide +kernel
theorem dX4_behind_116 : decode cX4_behind 116 = .ok (.ireturn, 1) := by decide +kernel
theorem dX5_init_0 : decode cX5_init 0 = .ok (.aload_n 0, 1) := by decide +kernel
theorem dX5_init_1 : decode cX5_init 1 = .ok (.invokespecial 3, 3) := by decide +kernel
theorem dX5_init_4 : decode cX5_init 4 = .ok (.aload_n 0, 1) := by decide +kernel
theorem dX5_init_5 : decode cX5_init 5 = .ok (.iload_n 1, 1) := by decide +kernel
theorem dX5_init_6 : decode cX5_init 6 = .ok (.iconst 0, 1) := by decide +kernel
theorem dX5_init_7 : decode cX5_init 7 = .ok (.invokestatic 9, 3) := by decide +kernel
theorem dX5_init_10 : decode cX5_init 10 = .ok (.newarray .int, 2) := by decide +kernel
theorem dX5_init_12 : decode cX5_init 12 = .ok (.putfield 15, 3) := by decide +kernel
theorem dX5_init_15 : decode cX5_init 15 = .ok (.return_, 1) := by decide +kernel
theorem dX5_get_0 : decode cX5_get 0 = .ok (.iload_n 1, 1) := by decide +kernel
theorem dX5_get_1 : decode cX5_get 1 = .ok (.ifCond .lt 21, 3) := by decide +kernel
theorem dX5_get_4 : decode cX5_get 4 = .ok (.iload_n 1, 1) := by decide +kernel
theorem dX5_get_5 : decode cX5_get 5 = .ok (.aload_n 0, 1) := by decide +kernel
theorem dX5_get_6 : decode cX5_get 6 = .ok (.getfield 15, 3) := by decide +kernel
theorem dX5_get_9 : decode cX5_get 9 = .ok (.arraylength, 1) := by decide +kernel
theorem dX5_get_10 : decode cX5_get 10 = .ok (.if_icmp .ge 12, 3) := by decide +kernel
theorem dX5_get_13 : decode cX5_get 13 = .ok (.aload_n 0, 1) := by decide +kernel
theorem dX5_get_14 : decode cX5_get 14 = .ok (.getfield 15, 3) := by decide +kernel
theorem dX5_get_17 : decode cX5_get 17 = .ok (.iload_n 1, 1) := by decide +kernel
theorem dX5_get_18 : decode cX5_get 18 = .ok (.iaload, 1) := by decide +kernel
theorem dX5_get_19 : decode cX5_get 19 = .ok (.goto 4, 3) := by decide +kernel
theorem dX5_get_22 : decode cX5_get 22 = .ok (.iconst (-1), 1) := by decide +kernel
theorem dX5_get_23 : decode cX5_get 23 = .ok (.ireturn, 1) := by decide +kernel
theorem dX5_set_0 : decode cX5_set 0 = .ok (.iload_n 1, 1) := by decide +kernel
theorem dX5_set_1 : decode cX5_set 1 = .ok (.ifCond .lt 19, 3) := by decide +kernel
theorem dX5_set_4 : decode cX5_set 4 = .ok (.iload_n 1, 1) := by decide +kernel
theorem dX5_set_5 : decode cX5_set 5 = .ok (.aload_n 0, 1) := by decide +kernel
theorem dX5_set_6 : decode cX5_set 6 = .ok (.getfield 15, 3) := by decide +kernel
theorem dX5_set_9 : decode cX5_set 9 = .ok (.arraylength, 1) := by decide +kernel
theorem dX5_set_10 : decode cX5_set 10 = .ok (.if_icmp .ge 10, 3) := by decide +kernel
theorem dX5_set_13 : decode cX5_set 13 = .ok (.aload_n 0, 1) := by decide +kernel
theorem dX5_set_14 : decode cX5_set 14 = .ok (.getfield 15, 3) := by decide +kernel
theorem dX5_set_17 : decode cX5_set 17 = .ok (.iload_n 1, 1) := by decide +kernel
theorem dX5_set_18 : decode cX5_set 18 = .ok (.iload_n 2, 1) := by decide +kernel
theorem dX5_set_19 : decode cX5_set 19 = .ok (.iastore, 1) := by decide +kernel
theorem dX5_set_20 : decode cX5_set 20 = .ok (.return_, 1) := by decide +kernel
theorem dX5_setAll_0 : decode cX5_setAll 0 = .ok (.aload_n 0, 1) := by decide +kernel
theorem dX5_setAll_1 : decode cX5_setAll 1 = .ok (.getfield 15, 3) := by decide +kernel
theorem dX5_setAll_4 : decode cX5_setAll 4 = .ok (.iload_n 1, 1) := by decide +kernel
theorem dX5_setAll_5 : decode cX5_setAll 5 = .ok (.invokestatic 21, 3) := by decide +kernel
theorem dX5_setAll_8 : decode cX5_setAll 8 = .ok (.return_, 1) := by decide +kernel
theorem dX5_copy_0 : decode cX5_copy 0 = .ok (.aload_n 0, 1) := by decide +kernel
theorem dX5_copy_1 : decode cX5_copy 1 = .ok (.getfield 15, 3) := by decide +kernel
theorem dX5_copy_4 : decode cX5_copy 4 = .ok (.arraylength, 1) := by decide +kernel
theorem dX5_copy_5 : decode cX5_copy 5 = .ok (.aload_n 1, 1) := by decide +kernel
theorem dX5_copy_6 : decode cX5_copy 6 = .ok (.getfield 15, 3) := by decide +kernel
theorem dX5_copy_9 : decode cX5_copy 9 = .ok (.arraylength, 1) := by decide +kernel
theorem dX5_copy_10 : decode cX5_copy 10 = .ok (.invokestatic 27, 3) := by decide +kernel
theorem dX5_copy_13 : decode cX5_copy 13 = .ok (.istore_n 2, 1) := by decide +kernel
theorem dX5_copy_14 : decode cX5_copy 14 = .ok (.aload_n 1, 1) := by decide +kernel
theorem dX5_copy_15 : decode cX5_copy 15 = .ok (.getfield 15, 3) := by decide +kernel
theorem dX5_copy_18 : decode cX5_copy 18 = .ok (.iconst 0, 1) := by decide +kernel
theorem dX5_copy_19 : decode cX5_copy 19 = .ok (.aload_n 0, 1) := by decide +kernel
theorem dX5_copy_20 : decode cX5_copy 20 = .ok (.getfield 15, 3) := by decide +kernel
theorem dX5_copy_23 : decode cX5_copy 23 = .ok (.iconst 0, 1) := by decide +kernel
theorem dX5_copy_24 : decode cX5_copy 24 = .ok (.iload_n 2, 1) := by decide +kernel
theorem dX5_copy_25 : decode cX5_copy 25 = .ok (.invokestatic 30, 3) := by decide +kernel
theorem dX5_copy_28 : decode cX5_copy 28 = .ok (.return_, 1) := by decide +kernel
theorem dX5_cut_0 : decode cX5_cut 0 = .ok (.aload_n 0, 1) := by decide +kernel
theorem dX5_cut_1 : decode cX5_cut 1 = .ok (.getfield 15, 3) := by decide +kernel
theorem dX5_cut_4 : decode cX5_cut 4 = .ok (.arraylength, 1) := by decide +kernel
theorem dX5_cut_5 : decode cX5_cut 5 = .ok (.iload_n 2, 1) := by decide +kernel
theorem dX5_cut_6 : decode cX5_cut 6 = .ok (.isub, 1) := by decide +kernel
theorem dX5_cut_7 : decode cX5_cut 7 = .ok (.iload_n 1, 1) := by decide +kernel
theorem dX5_cut_8 : decode cX5_cut 8 = .ok (.isub, 1) := by decide +kernel
theorem dX5_cut_9 : decode cX5_cut 9 = .ok (.istore_n 3, 1) := by decide +kernel
theorem dX5_cut_10 : decode cX5_cut 10 = .ok (.iload_n 1, 1) := by decide +kernel
theorem dX5_cut_11 : decode cX5_cut 11 = .ok (.ifCond .lt 27, 3) := by decide +kernel
theorem dX5_cut_14 : decode cX5_cut 14 = .ok (.iload_n 2, 1) := by decide +kernel
theorem dX5_cut_15 : decode cX5_cut 15 = .ok (.ifCond .lt 23, 3) := by decide +kernel
theorem dX5_cut_18 : decode cX5_cut 18 = .ok (.iload_n 3, 1) := by decide +kernel
theorem dX5_cut_19 : decode cX5_cut 19 = .ok (.ifCond .lt 19, 3) := by decide +kernel
theorem dX5_cut_22 : decode cX5_cut 22 = .ok (.aload_n 0, 1) := by decide +kernel
theorem dX5_cut_23 : decode cX5_cut 23 = .ok (.getfield 15, 3) := by decide +kernel
theorem dX5_cut_26 : decode cX5_cut 26 = .ok (.iload_n 1, 1) := by decide +kernel
theorem dX5_cut_27 : decode cX5_cut 27 = .ok (.iload_n 2, 1) := by decide +kernel
theorem dX5_cut_28 : decode cX5_cut 28 = .ok (.iadd, 1) := by decide +kernel
theorem dX5_cut_29 : decode cX5_cut 29 = .ok (.aload_n 0, 1) := by decide +kernel
theorem dX5_cut_30 : decode cX5_cut 30 = .ok (.getfield 15, 3) := by decide +kernel
theorem dX5_cut_33 : decode cX5_cut 33 = .ok (.iload_n 1, 1) := by decide +kernel
theorem dX5_cut_34 : decode cX5_cut 34 = .ok (.iload_n 3, 1) := by decide +kernel
theorem dX5_cut_35 : decode cX5_cut 35 = .ok (.invokestatic 30, 3) := by decide +kernel
theorem dX5_cut_38 : decode cX5_cut 38 = .ok (.return_, 1) := by decide +kernel
theorem dX6_init_0 : decode cX6_init 0 = .ok (.aload_n 0, 1) := by decide +kernel
theorem dX6_init_1 : decode cX6_init 1 = .ok (.invokespecial 3, 3) := by decide +kernel
theorem dX6_init_4 : decode cX6_init 4 = .ok (.aload_n 0, 1) := by decide +kernel
theorem dX6_init_5 : decode cX6_init 5 = .ok (.new 9, 3) := by decide +kernel
theorem dX6_init_8 : decode cX6_init 8 = .ok (.dup, 1) := by decide +kernel
theorem dX6_init_9 : decode cX6_init 9 = .ok (.bipush 12, 2) := by decide +kernel
theorem dX6_init_11 : decode cX6_init 11 = .ok (.invokespecial 11, 3) := by decide +kernel
theorem dX6_init_14 : decode cX6_init 14 = .ok (.putfield 14, 3) := by decide +kernel
theorem dX6_init_17 : decode cX6_init 17 = .ok (.aload_n 0, 1) := by decide +kernel
theorem dX6_init_18 : decode cX6_init 18 = .ok (.new 9, 3) := by decide +kernel
theorem dX6_init_21 : decode cX6_init 21 = .ok (.dup, 1) := by decide +kernel
theorem dX6_init_22 : decode cX6_init 22 = .ok (.sipush 384, 3) := by decide +kernel
theorem dX6_init_25 : decode cX6_init 25 = .ok (.invokespecial 11, 3) := by decide +kernel
theorem dX6_init_28 : decode cX6_init 28 = .ok (.putfield 20, 3) := by decide +kernel
theorem dX6_init_31 : decode cX6_init 31 = .ok (.aload_n 0, 1) := by decide +kernel
theorem dX6_init_32 : decode cX6_init 32 = .ok (.new 9, 3) := by decide +kernel
theorem dX6_init_35 : decode cX6_init 35 = .ok (.dup, 1) := by decide +kernel
theorem dX6_init_36 : decode cX6_init 36 = .ok (.sipush 384, 3) := by decide +kernel
theorem dX6_init_39 : decode cX6_init 39 = .ok (.invokespecial 11, 3) := by decide +kernel
theorem dX6_init_42 : decode cX6_init 42 = .ok (.putfield 23, 3) := by decide +kernel
theorem dX6_init_45 : decode cX6_init 45 = .ok (.return_, 1) := by decide +kernel
theorem dX6_size_0 : decode cX6_size 0 = .ok (.aload_n 0, 1) := by decide +kernel
theorem dX6_size_1 : decode cX6_size 1 = .ok (.getfield 26, 3) := by decide +kernel
theorem dX6_size_4 : decode cX6_size 4 = .ok (.ireturn, 1) := by decide +kernel
theorem dX6_kind_0 : decode cX6_kind 0 = .ok (.aload_n 0, 1) := by decide +kernel
theorem dX6_kind_1 : decode cX6_kind 1 = .ok (.getfield 14, 3) := by decide +kernel
theorem dX6_kind_4 : decode cX6_kind 4 = .ok (.iload_n 1, 1) := by decide +kernel
theorem dX6_kind_5 : decode cX6_kind 5 = .ok (.invokevirtual 30, 3) := by decide +kernel
theorem dX6_kind_8 : decode cX6_kind 8 = .ok (.ireturn, 1) := by decide +kernel
theorem dX6_profile_0 : decode cX6_profile 0 = .ok (.aload_n 0, 1) := by decide +kernel
theorem dX6_profile_1 : decode cX6_profile 1 = .ok (.getfield 20, 3) := by decide +kernel
theorem dX6_profile_4 : decode cX6_profile 4 = .ok (.iload_n 1, 1) := by decide +kernel
theorem dX6_profile_5 : decode cX6_profile 5 = .ok (.bipush 32, 2) := by decide +kernel
theorem dX6_profile_7 : decode cX6_profile 7 = .ok (.imul, 1) := by decide +kernel
theorem dX6_profile_8 : decode cX6_profile 8 = .ok (.iload_n 2, 1) := by decide +kernel
theorem dX6_profile_9 : decode cX6_profile 9 = .ok (.iconst 4, 1) := by decide +kernel
theorem dX6_profile_10 : decode cX6_profile 10 = .ok (.imul, 1) := by decide +kernel
theorem dX6_profile_11 : decode cX6_profile 11 = .ok (.iadd, 1) := by decide +kernel
theorem dX6_profile_12 : decode cX6_profile 12 = .ok (.iload_n 3, 1) := by decide +kernel
theorem dX6_profile_13 : decode cX6_profile 13 = .ok (.iadd, 1) := by decide +kernel
theorem dX6_profile_14 : decode cX6_profile 14 = .ok (.invokevirtual 30, 3) := by decide +kernel
theorem dX6_profile_17 : decode cX6_profile 17 = .ok (.ireturn, 1) := by decide +kernel
theorem dX6_line_0 : decode cX6_line 0 = .ok (.aload_n 0, 1) := by decide +kernel
theorem dX6_line_1 : decode cX6_line 1 = .ok (.getfield 23, 3) := by decide +kernel
theorem dX6_line_4 : decode cX6_line 4 = .ok (.iload_n 1, 1) := by decide +kernel
theorem dX6_line_5 : decode cX6_line 5 = .ok (.bipush 32, 2) := by decide +kernel
theorem dX6_line_7 : decode cX6_line 7 = .ok (.imul, 1) := by decide +kernel
theorem dX6_line_8 : decode cX6_line 8 = .ok (.iload_n 2, 1) := by decide +kernel
theorem dX6_line_9 : decode cX6_line 9 = .ok (.iconst 4, 1) := by decide +kernel
theorem dX6_line_10 : decode cX6_line 10 = .ok (.imul, 1) := by decide +kernel
theorem dX6_line_11 : decode cX6_line 11 = .ok (.iadd, 1) := by decide +kernel
theorem dX6_line_12 : decode cX6_line 12 = .ok (.iload_n 3, 1) := by decide +kernel
theorem dX6_line_13 : decode cX6_line 13 = .ok (.iadd, 1) := by decide +kernel
theorem dX6_line_14 : decode cX6_line 14 = .ok (.invokevirtual 30, 3) := by decide +kernel
theorem dX6_line_17 : decode cX6_line 17 = .ok (.ireturn, 1) := by decide +kernel
theorem dX6_append_0 : decode cX6_append 0 = .ok (.aload_n 0, 1) := by decide +kernel
theorem dX6_append_1 : decode cX6_append 1 = .ok (.getfield 26, 3) := by decide +kernel
theorem dX6_append_4 : decode cX6_append 4 = .ok (.bipush 12, 2) := by decide +kernel
theorem dX6_append_6 : decode cX6_append 6 = .ok (.if_icmp .lt 4, 3) := by decide +kernel
theorem dX6_append_9 : decode cX6_append 9 = .ok (.return_, 1) := by decide +kernel
theorem dX6_append_10 : decode cX6_append 10 = .ok (.aload_n 0, 1) := by decide +kernel
theorem dX6_append_11 : decode cX6_append 11 = .ok (.getfield 14, 3) := by decide +kernel
theorem dX6_append_14 : decode cX6_append 14 = .ok (.aload_n 0, 1) := by decide +kernel
theorem dX6_append_15 : decode cX6_append 15 = .ok (.getfield 26, 3) := by decide +kernel
theorem dX6_append_18 : decode cX6_append 18 = .ok (.aload_n 1, 1) := by decide +kernel
theorem dX6_append_19 : decode cX6_append 19 = .ok (.invokevirtual 34, 3) := by decide +kernel
theorem dX6_append_22 : decode cX6_append 22 = .ok (.invokevirtual 40, 3) := by decide +kernel
theorem dX6_append_25 : decode cX6_append 25 = .ok (.iconst 0, 1) := by decide +kernel
theorem dX6_append_26 : decode cX6_append 26 = .ok (.istore_n 2, 1) := by decide +kernel
theorem dX6_append_27 : decode cX6_append 27 = .ok (.iload_n 2, 1) := by decide +kernel
theorem dX6_append_28 : decode cX6_append 28 = .ok (.bipush 8, 2) := by decide +kernel
theorem dX6_append_30 : decode cX6_append 30 = .ok (.if_icmp .ge 67, 3) := by decide +kernel
theorem dX6_append_33 : decode cX6_append 33 = .ok (.iconst 0, 1) := by decide +kernel
theorem dX6_append_34 : decode cX6_append 34 = .ok (.istore_n 3, 1) := by decide +kernel
theorem dX6_append_35 : decode cX6_append 35 = .ok (.iload_n 3, 1) := by decide +kernel
theorem dX6_append_36 : decode cX6_append 36 = .ok (.iconst 4, 1) := by decide +kernel
theorem dX6_append_37 : decode cX6_append 37 = .ok (.if_icmp .ge 54, 3) := by decide +kernel
theorem dX6_append_40 : decode cX6_append 40 = .ok (.aload_n 0, 1) := by decide +kernel
theorem dX6_append_41 : decode cX6_append 41 = .ok (.getfield 26, 3) := by decide +kernel
theorem dX6_append_44 : decode cX6_append 44 = .ok (.bipush 32, 2) := by decide +kernel
theorem dX6_append_46 : decode cX6_append 46 = .ok (.imul, 1) := by decide +kernel
theorem dX6_append_47 : decode cX6_append 47 = .ok (.iload_n 2, 1) := by decide +kernel
theorem dX6_append_48 : decode cX6_append 48 = .ok (.iconst 4, 1) := by decide +kernel
theorem dX6_append_49 : decode cX6_append 49 = .ok (.imul, 1) := by decide +kernel
theorem dX6_append_50 : decode cX6_append 50 = .ok (.iadd, 1) := by decide +kernel
theorem dX6_append_51 : decode cX6_append 51 = .ok (.iload_n 3, 1) := by decide +kernel
theorem dX6_append_52 : decode cX6_append 52 = .ok (.iadd, 1) := by decide +kernel
theorem dX6_append_53 : decode cX6_append 53 = .ok (.istore 4, 2) := by decide +kernel
theorem dX6_append_55 : decode cX6_append 55 = .ok (.aload_n 0, 1) := by decide +kernel
theorem dX6_append_56 : decode cX6_append 56 = .ok (.getfield 20, 3) := by decide +kernel
theorem dX6_append_59 : decode cX6_append 59 = .ok (.iload 4, 2) := by decide +kernel
theorem dX6_append_61 : decode cX6_append 61 = .ok (.aload_n 1, 1) := by decide +kernel
theorem dX6_append_62 : decode cX6_append 62 = .ok (.iload_n 2, 1) := by decide +kernel
theorem dX6_append_63 : decode cX6_append 63 = .ok (.iload_n 3, 1) := by decide +kernel
theorem dX6_append_64 : decode cX6_append 64 = .ok (.invokevirtual 44, 3) := by decide +kernel
theorem dX6_append_67 : decode cX6_append 67 = .ok (.invokevirtual 40, 3) := by decide +kernel
theorem dX6_append_70 : decode cX6_append 70 = .ok (.aload_n 0, 1) := by decide +kernel
theorem dX6_append_71 : decode cX6_append 71 = .ok (.getfield 23, 3) := by decide +kernel
theorem dX6_append_74 : decode cX6_append 74 = .ok (.iload 4, 2) := by decide +kernel
theorem dX6_append_76 : decode cX6_append 76 = .ok (.aload_n 1, 1) := by decide +kernel
theorem dX6_append_77 : decode cX6_append 77 = .ok (.iload_n 2, 1) := by decide +kernel
theorem dX6_append_78 : decode cX6_append 78 = .ok (.iload_n 3, 1) := by decide +kernel
theorem dX6_append_79 : decode cX6_append 79 = .ok (.invokevirtual 48, 3) := by decide +kernel
theorem dX6_append_82 : decode cX6_append 82 = .ok (.invokevirtual 40, 3) := by decide +kernel
theorem dX6_append_85 : decode cX6_append 85 = .ok (.iinc 3 1, 3) := by decide +kernel
theorem dX6_append_88 : decode cX6_append 88 = .ok (.goto (-53), 3) := by decide +kernel
theorem dX6_append_91 : decode cX6_append 91 = .ok (.iinc 2 1, 3) := by decide +kernel
theorem dX6_append_94 : decode cX6_append 94 = .ok (.goto (-67), 3) := by decide +kernel
theorem dX6_append_97 : decode cX6_append 97 = .ok (.aload_n 0, 1) := by decide +kernel
theorem dX6_append_98 : decode cX6_append 98 = .ok (.dup, 1) := by decide +kernel
theorem dX6_append_99 : decode cX6_append 99 = .ok (.getfield 26, 3) := by decide +kernel
theorem dX6_append_102 : decode cX6_append 102 = .ok (.iconst 1, 1) := by decide +kernel
theorem dX6_append_103 : decode cX6_append 103 = .ok (.iadd, 1) := by decide +kernel
theorem dX6_append_104 : decode cX6_append 104 = .ok (.putfield 26, 3) := by decide +kernel
theorem dX6_append_107 : decode cX6_append 107 = .ok (.return_, 1) := by decide +kernel
theorem dX6_remove_0 : decode cX6_remove 0 = .ok (.iload_n 1, 1) := by decide +kernel
theorem dX6_remove_1 : decode cX6_remove 1 = .ok (.ifCond .lt 11, 3) := by decide +kernel
theorem dX6_remove_4 : decode cX6_remove 4 = .ok (.iload_n 1, 1) := by decide +kernel
theorem dX6_remove_5 : decode cX6_remove 5 = .ok (.aload_n 0, 1) := by decide +kernel
theorem dX6_remove_6 : decode cX6_remove 6 = .ok (.getfield 26, 3) := by decide +kernel
theorem dX6_remove_9 : decode cX6_remove 9 = .ok (.if_icmp .lt 4, 3) := by decide +kernel
theorem dX6_remove_12 : decode cX6_remove 12 = .ok (.return_, 1) := by decide +kernel
theorem dX6_remove_13 : decode cX6_remove 13 = .ok (.aload_n 0, 1) := by decide +kernel
theorem dX6_remove_14 : decode cX6_remove 14 = .ok (.getfield 14, 3) := by decide +kernel
theorem dX6_remove_17 : decode cX6_remove 17 = .ok (.iload_n 1, 1) := by decide +kernel
theorem dX6_remove_18 : decode cX6_remove 18 = .ok (.iconst 1, 1) := by decide +kernel
theorem dX6_remove_19 : decode cX6_remove 19 = .ok (.invokevirtual 51, 3) := by decide +kernel
theorem dX6_remove_22 : decode cX6_remove 22 = .ok (.aload_n 0, 1) := by decide +kernel
theorem dX6_remove_23 : decode cX6_remove 23 = .ok (.getfield 20, 3) := by decide +kernel
theorem dX6_remove_26 : decode cX6_remove 26 = .ok (.iload_n 1, 1) := by decide +kernel
theorem dX6_remove_27 : decode cX6_remove 27 = .ok (.bipush 32, 2) := by decide +kernel
theorem dX6_remove_29 : decode cX6_remove 29 = .ok (.imul, 1) := by decide +kernel
theorem dX6_remove_30 : decode cX6_remove 30 = .ok (.bipush 32, 2) := by decide +kernel
theorem dX6_remove_32 : decode cX6_remove 32 = .ok (.invokevirtual 51, 3) := by decide +kernel
theorem dX6_remove_35 : decode cX6_remove 35 = .ok (.aload_n 0, 1) := by decide +kernel
theorem dX6_remove_36 : decode cX6_remove 36 = .ok (.getfield 23, 3) := by decide +kernel
theorem dX6_remove_39 : decode cX6_remove 39 = .ok (.iload_n 1, 1) := by decide +kernel
theorem dX6_remove_40 : decode cX6_remove 40 = .ok (.bipush 32, 2) := by decide +kernel
theorem dX6_remove_42 : decode cX6_remove 42 = .ok (.imul, 1) := by decide +kernel
theorem dX6_remove_43 : decode cX6_remove 43 = .ok (.bipush 32, 2) := by decide +kernel
theorem dX6_remove_45 : decode cX6_remove 45 = .ok (.invokevirtual 51, 3) := by decide +kernel
theorem dX6_remove_48 : decode cX6_remove 48 = .ok (.aload_n 0, 1) := by decide +kernel
theorem dX6_remove_49 : decode cX6_remove 49 = .ok (.dup, 1) := by decide +kernel
theorem dX6_remove_50 : decode cX6_remove 50 = .ok (.getfield 26, 3) := by decide +kernel
theorem dX6_remove_53 : decode cX6_remove 53 = .ok (.iconst 1, 1) := by decide +kernel
theorem dX6_remove_54 : decode cX6_remove 54 = .ok (.isub, 1) := by decide +kernel
theorem dX6_remove_55 : decode cX6_remove 55 = .ok (.putfield 26, 3) := by decide +kernel
theorem dX6_remove_58 : decode cX6_remove 58 = .ok (.return_, 1) := by decide +kernel
theorem dX6_copy_0 : decode cX6_copy 0 = .ok (.aload_n 0, 1) := by decide +kernel
theorem dX6_copy_1 : decode cX6_copy 1 = .ok (.getfield 14, 3) := by decide +kernel
theorem dX6_copy_4 : decode cX6_copy 4 = .ok (.aload_n 1, 1) := by decide +kernel
theorem dX6_copy_5 : decode cX6_copy 5 = .ok (.getfield 14, 3) := by decide +kernel
theorem dX6_copy_8 : decode cX6_copy 8 = .ok (.invokevirtual 54, 3) := by decide +kernel
theorem dX6_copy_11 : decode cX6_copy 11 = .ok (.aload_n 0, 1) := by decide +kernel
theorem dX6_copy_12 : decode cX6_copy 12 = .ok (.getfield 20, 3) := by decide +kernel
theorem dX6_copy_15 : decode cX6_copy 15 = .ok (.aload_n 1, 1) := by decide +kernel
theorem dX6_copy_16 : decode cX6_copy 16 = .ok (.getfield 20, 3) := by decide +kernel
theorem dX6_copy_19 : decode cX6_copy 19 = .ok (.invokevirtual 54, 3) := by decide +kernel
theorem dX6_copy_22 : decode cX6_copy 22 = .ok (.aload_n 0, 1) := by decide +kernel
theorem dX6_copy_23 : decode cX6_copy 23 = .ok (.getfield 23, 3) := by decide +kernel
theorem dX6_copy_26 : decode cX6_copy 26 = .ok (.aload_n 1, 1) := by decide +kernel
theorem dX6_copy_27 : decode cX6_copy 27 = .ok (.getfield 23, 3) := by decide +kernel
theorem dX6_copy_30 : decode cX6_copy 30 = .ok (.invokevirtual 54, 3) := by decide +kernel
theorem dX6_copy_33 : decode cX6_copy 33 = .ok (.aload_n 0, 1) := by decide +kernel
theorem dX6_copy_34 : decode cX6_copy 34 = .ok (.aload_n 1, 1) := by decide +kernel
theorem dX6_copy_35 : decode cX6_copy 35 = .ok (.getfield 26, 3) := by decide +kernel
theorem dX6_copy_38 : decode cX6_copy 38 = .ok (.putfield 26, 3) := by decide +kernel
theorem dX6_copy_41 : decode cX6_copy 41 = .ok (.return_, 1) := by decide +kernel
theorem dX7_init_0 : decode cX7_init 0 = .ok (.aload_n 0, 1) := by decide +kernel
theorem dX7_init_1 : decode cX7_init 1 = .ok (.invokespecial 3, 3) := by decide +kernel
theorem dX7_init_4 : decode cX7_init 4 = .ok (.aload_n 0, 1) := by decide +kernel
theorem dX7_init_5 : decode cX7_init 5 = .ok (.new 9, 3) := by decide +kernel
theorem dX7_init_8 : decode cX7_init 8 = .ok (.dup, 1) := by decide +kernel
theorem dX7_init_9 : decode cX7_init 9 = .ok (.bipush 60, 2) := by decide +kernel
theorem dX7_init_11 : decode cX7_init 11 = .ok (.invokespecial 11, 3) := by decide +kernel
theorem dX7_init_14 : decode cX7_init 14 = .ok (.putfield 14, 3) := by decide +kernel
theorem dX7_init_17 : decode cX7_init 17 = .ok (.aload_n 0, 1) := by decide +kernel
theorem dX7_init_18 : decode cX7_init 18 = .ok (.new 20, 3) := by decide +kernel
theorem dX7_init_21 : decode cX7_init 21 = .ok (.dup, 1) := by decide +kernel
theorem dX7_init_22 : decode cX7_init 22 = .ok (.invokespecial 22, 3) := by decide +kernel
theorem dX7_init_25 : decode cX7_init 25 = .ok (.putfield 23, 3) := by decide +kernel
theorem dX7_init_28 : decode cX7_init 28 = .ok (.return_, 1) := by decide +kernel
theorem dX7_length_0 : decode cX7_length 0 = .ok (.aload_n 0, 1) := by decide +kernel
theorem dX7_length_1 : decode cX7_length 1 = .ok (.getfield 27, 3) := by decide +kernel
theorem dX7_length_4 : decode cX7_length 4 = .ok (.ireturn, 1) := by decide +kernel
theorem dX7_position_0 : decode cX7_position 0 = .ok (.aload_n 0, 1) := by decide +kernel
theorem dX7_position_1 : decode cX7_position 1 = .ok (.getfield 31, 3) := by decide +kernel
theorem dX7_position_4 : decode cX7_position 4 = .ok (.ireturn, 1) := by decide +kernel
theorem dX7_isSound_0 : decode cX7_isSound 0 = .ok (.aload_n 0, 1) := by decide +kernel
theorem dX7_isSound_1 : decode cX7_isSound 1 = .ok (.getfield 34, 3) := by decide +kernel
theorem dX7_isSound_4 : decode cX7_isSound 4 = .ok (.ireturn, 1) := by decide +kernel
theorem dX7_draft_0 : decode cX7_draft 0 = .ok (.aload_n 0, 1) := by decide +kernel
theorem dX7_draft_1 : decode cX7_draft 1 = .ok (.getfield 23, 3) := by decide +kernel
theorem dX7_draft_4 : decode cX7_draft 4 = .ok (.areturn, 1) := by decide +kernel
theorem dX7_append_0 : decode cX7_append 0 = .ok (.aload_n 0, 1) := by decide +kernel
theorem dX7_append_1 : decode cX7_append 1 = .ok (.getfield 27, 3) := by decide +kernel
theorem dX7_append_4 : decode cX7_append 4 = .ok (.bipush 60, 2) := by decide +kernel
theorem dX7_append_6 : decode cX7_append 6 = .ok (.if_icmp .ge 25, 3) := by decide +kernel
theorem dX7_append_9 : decode cX7_append 9 = .ok (.aload_n 0, 1) := by decide +kernel
theorem dX7_append_10 : decode cX7_append 10 = .ok (.getfield 14, 3) := by decide +kernel
theorem dX7_append_13 : decode cX7_append 13 = .ok (.aload_n 0, 1) := by decide +kernel
theorem dX7_append_14 : decode cX7_append 14 = .ok (.getfield 27, 3) := by decide +kernel
theorem dX7_append_17 : decode cX7_append 17 = .ok (.iload_n 1, 1) := by decide +kernel
theorem dX7_append_18 : decode cX7_append 18 = .ok (.invokevirtual 38, 3) := by decide +kernel
theorem dX7_append_21 : decode cX7_append 21 = .ok (.aload_n 0, 1) := by decide +kernel
theorem dX7_append_22 : decode cX7_append 22 = .ok (.dup, 1) := by decide +kernel
theorem dX7_append_23 : decode cX7_append 23 = .ok (.getfield 27, 3) := by decide +kernel
theorem dX7_append_26 : decode cX7_append 26 = .ok (.iconst 1, 1) := by decide +kernel
theorem dX7_append_27 : decode cX7_append 27 = .ok (.iadd, 1) := by decide +kernel
theorem dX7_append_28 : decode cX7_append 28 = .ok (.putfield 27, 3) := by decide +kernel
theorem dX7_append_31 : decode cX7_append 31 = .ok (.return_, 1) := by decide +kernel
theorem dX7_clear_0 : decode cX7_clear 0 = .ok (.aload_n 0, 1) := by decide +kernel
theorem dX7_clear_1 : decode cX7_clear 1 = .ok (.iconst 0, 1) := by decide +kernel
theorem dX7_clear_2 : decode cX7_clear 2 = .ok (.putfield 27, 3) := by decide +kernel
theorem dX7_clear_5 : decode cX7_clear 5 = .ok (.return_, 1) := by decide +kernel
theorem dX7_read_0 : decode cX7_read 0 = .ok (.aload_n 0, 1) := by decide +kernel
theorem dX7_read_1 : decode cX7_read 1 = .ok (.iconst 0, 1) := by decide +kernel
theorem dX7_read_2 : decode cX7_read 2 = .ok (.putfield 31, 3) := by decide +kernel
theorem dX7_read_5 : decode cX7_read 5 = .ok (.aload_n 0, 1) := by decide +kernel
theorem dX7_read_6 : decode cX7_read 6 = .ok (.iconst 1, 1) := by decide +kernel
theorem dX7_read_7 : decode cX7_read 7 = .ok (.putfield 34, 3) := by decide +kernel
theorem dX7_read_10 : decode cX7_read 10 = .ok (.iconst 0, 1) := by decide +kernel
theorem dX7_read_11 : decode cX7_read 11 = .ok (.istore_n 1, 1) := by decide +kernel
theorem dX7_read_12 : decode cX7_read 12 = .ok (.iload_n 1, 1) := by decide +kernel
theorem dX7_read_13 : decode cX7_read 13 = .ok (.iconst 4, 1) := by decide +kernel
theorem dX7_read_14 : decode cX7_read 14 = .ok (.if_icmp .ge 24, 3) := by decide +kernel
theorem dX7_read_17 : decode cX7_read 17 = .ok (.iload_n 1, 1) := by decide +kernel
theorem dX7_read_18 : decode cX7_read 18 = .ok (.ifCond .le 9, 3) := by decide +kernel
theorem dX7_read_21 : decode cX7_read 21 = .ok (.aload_n 0, 1) := by decide +kernel
theorem dX7_read_22 : decode cX7_read 22 = .ok (.bipush 44, 2) := by decide +kernel
theorem dX7_read_24 : decode cX7_read 24 = .ok (.invokevirtual 42, 3) := by decide +kernel
theorem dX7_read_27 : decode cX7_read 27 = .ok (.aload_n 0, 1) := by decide +kernel
theorem dX7_read_28 : decode cX7_read 28 = .ok (.iload_n 1, 1) := by decide +kernel
theorem dX7_read_29 : decode cX7_read 29 = .ok (.invokevirtual 46, 3) := by decide +kernel
theorem dX7_read_32 : decode cX7_read 32 = .ok (.iinc 1 1, 3) := by decide +kernel
theorem dX7_read_35 : decode cX7_read 35 = .ok (.goto (-23), 3) := by decide +kernel
theorem dX7_read_38 : decode cX7_read 38 = .ok (.aload_n 0, 1) := by decide +kernel
theorem dX7_read_39 : decode cX7_read 39 = .ok (.bipush 59, 2) := by decide +kernel
theorem dX7_read_41 : decode cX7_read 41 = .ok (.invokevirtual 42, 3) := by decide +kernel
theorem dX7_read_44 : decode cX7_read 44 = .ok (.aload_n 0, 1) := by decide +kernel
theorem dX7_read_45 : decode cX7_read 45 = .ok (.getfield 23, 3) := by decide +kernel
theorem dX7_read_48 : decode cX7_read 48 = .ok (.aload_n 0, 1) := by decide +kernel
theorem dX7_read_49 : decode cX7_read 49 = .ok (.iconst 1, 1) := by decide +kernel
theorem dX7_read_50 : decode cX7_read 50 = .ok (.invokevirtual 49, 3) := by decide +kernel
theorem dX7_read_53 : decode cX7_read 53 = .ok (.invokevirtual 53, 3) := by decide +kernel
theorem dX7_read_56 : decode cX7_read 56 = .ok (.aload_n 0, 1) := by decide +kernel
theorem dX7_read_57 : decode cX7_read 57 = .ok (.aload_n 0, 1) := by decide +kernel
theorem dX7_read_58 : decode cX7_read 58 = .ok (.getfield 34, 3) := by decide +kernel
theorem dX7_read_61 : decode cX7_read 61 = .ok (.ifCond .eq 18, 3) := by decide +kernel
theorem dX7_read_64 : decode cX7_read 64 = .ok (.aload_n 0, 1) := by decide +kernel
theorem dX7_read_65 : decode cX7_read 65 = .ok (.getfield 31, 3) := by decide +kernel
theorem dX7_read_68 : decode cX7_read 68 = .ok (.aload_n 0, 1) := by decide +kernel
theorem dX7_read_69 : decode cX7_read 69 = .ok (.getfield 27, 3) := by decide +kernel
theorem dX7_read_72 : decode cX7_read 72 = .ok (.if_icmp .ne 7, 3) := by decide +kernel
theorem dX7_read_75 : decode cX7_read 75 = .ok (.iconst 1, 1) := by decide +kernel
theorem dX7_read_76 : decode cX7_read 76 = .ok (.goto 4, 3) := by decide +kernel
theorem dX7_read_79 : decode cX7_read 79 = .ok (.iconst 0, 1) := by decide +kernel
theorem dX7_read_80 : decode cX7_read 80 = .ok (.putfield 34, 3) := by decide +kernel
theorem dX7_read_83 : decode cX7_read 83 = .ok (.return_, 1) := by decide +kernel
theorem dX7_takeEdge_0 : decode cX7_takeEdge 0 = .ok (.aload_n 0, 1) := by decide +kernel
theorem dX7_takeEdge_1 : decode cX7_takeEdge 1 = .ok (.invokevirtual 56, 3) := by decide +kernel
theorem dX7_takeEdge_4 : decode cX7_takeEdge 4 = .ok (.bipush 45, 2) := by decide +kernel
theorem dX7_takeEdge_6 : decode cX7_takeEdge 6 = .ok (.if_icmp .ne 7, 3) := by decide +kernel
theorem dX7_takeEdge_9 : decode cX7_takeEdge 9 = .ok (.iconst 1, 1) := by decide +kernel
theorem dX7_takeEdge_10 : decode cX7_takeEdge 10 = .ok (.goto 4, 3) := by decide +kernel
theorem dX7_takeEdge_13 : decode cX7_takeEdge 13 = .ok (.iconst 0, 1) := by decide +kernel
theorem dX7_takeEdge_14 : decode cX7_takeEdge 14 = .ok (.istore_n 2, 1) := by decide +kernel
theorem dX7_takeEdge_15 : decode cX7_takeEdge 15 = .ok (.iconst (-1), 1) := by decide +kernel
theorem dX7_takeEdge_16 : decode cX7_takeEdge 16 = .ok (.istore_n 3, 1) := by decide +kernel
theorem dX7_takeEdge_17 : decode cX7_takeEdge 17 = .ok (.iload_n 2, 1) := by decide +kernel
theorem dX7_takeEdge_18 : decode cX7_takeEdge 18 = .ok (.ifCond .eq 12, 3) := by decide +kernel
theorem dX7_takeEdge_21 : decode cX7_takeEdge 21 = .ok (.aload_n 0, 1) := by decide +kernel
theorem dX7_takeEdge_22 : decode cX7_takeEdge 22 = .ok (.bipush 45, 2) := by decide +kernel
theorem dX7_takeEdge_24 : decode cX7_takeEdge 24 = .ok (.invokevirtual 42, 3) := by decide +kernel
theorem dX7_takeEdge_27 : decode cX7_takeEdge 27 = .ok (.goto 34, 3) := by decide +kernel
theorem dX7_takeEdge_30 : decode cX7_takeEdge 30 = .ok (.aload_n 0, 1) := by decide +kernel
theorem dX7_takeEdge_31 : decode cX7_takeEdge 31 = .ok (.bipush 9, 2) := by decide +kernel
theorem dX7_takeEdge_33 : decode cX7_takeEdge 33 = .ok (.invokevirtual 49, 3) := by decide +kernel
theorem dX7_takeEdge_36 : decode cX7_takeEdge 36 = .ok (.bipush 100, 2) := by decide +kernel
theorem dX7_takeEdge_38 : decode cX7_takeEdge 38 = .ok (.imul, 1) := by decide +kernel
theorem dX7_takeEdge_39 : decode cX7_takeEdge 39 = .ok (.istore_n 3, 1) := by decide +kernel
theorem dX7_takeEdge_40 : decode cX7_takeEdge 40 = .ok (.iload_n 3, 1) := by decide +kernel
theorem dX7_takeEdge_41 : decode cX7_takeEdge 41 = .ok (.aload_n 0, 1) := by decide +kernel
theorem dX7_takeEdge_42 : decode cX7_takeEdge 42 = .ok (.bipush 9, 2) := by decide +kernel
theorem dX7_takeEdge_44 : decode cX7_takeEdge 44 = .ok (.invokevirtual 49, 3) := by decide +kernel
theorem dX7_takeEdge_47 : decode cX7_takeEdge 47 = .ok (.bipush 10, 2) := by decide +kernel
theorem dX7_takeEdge_49 : decode cX7_takeEdge 49 = .ok (.imul, 1) := by decide +kernel
theorem dX7_takeEdge_50 : decode cX7_takeEdge 50 = .ok (.iadd, 1) := by decide +kernel
theorem dX7_takeEdge_51 : decode cX7_takeEdge 51 = .ok (.istore_n 3, 1) := by decide +kernel
theorem dX7_takeEdge_52 : decode cX7_takeEdge 52 = .ok (.iload_n 3, 1) := by decide +kernel
theorem dX7_takeEdge_53 : decode cX7_takeEdge 53 = .ok (.aload_n 0, 1) := by decide +kernel
theorem dX7_takeEdge_54 : decode cX7_takeEdge 54 = .ok (.bipush 9, 2) := by decide +kernel
theorem dX7_takeEdge_56 : decode cX7_takeEdge 56 = .ok (.invokevirtual 49, 3) := by decide +kernel
theorem dX7_takeEdge_59 : decode cX7_takeEdge 59 = .ok (.iadd, 1) := by decide +kernel
theorem dX7_takeEdge_60 : decode cX7_takeEdge 60 = .ok (.istore_n 3, 1) := by decide +kernel
theorem dX7_takeEdge_61 : decode cX7_takeEdge 61 = .ok (.aload_n 0, 1) := by decide +kernel
theorem dX7_takeEdge_62 : decode cX7_takeEdge 62 = .ok (.bipush 47, 2) := by decide +kernel
theorem dX7_takeEdge_64 : decode cX7_takeEdge 64 = .ok (.invokevirtual 42, 3) := by decide +kernel
theorem dX7_takeEdge_67 : decode cX7_takeEdge 67 = .ok (.aload_n 0, 1) := by decide +kernel
theorem dX7_takeEdge_68 : decode cX7_takeEdge 68 = .ok (.getfield 23, 3) := by decide +kernel
theorem dX7_takeEdge_71 : decode cX7_takeEdge 71 = .ok (.iload_n 1, 1) := by decide +kernel
theorem dX7_takeEdge_72 : decode cX7_takeEdge 72 = .ok (.iload_n 3, 1) := by decide +kernel
theorem dX7_takeEdge_73 : decode cX7_takeEdge 73 = .ok (.aload_n 0, 1) := by decide +kernel
theorem dX7_takeEdge_74 : decode cX7_takeEdge 74 = .ok (.iload_n 2, 1) := by decide +kernel
theorem dX7_takeEdge_75 : decode cX7_takeEdge 75 = .ok (.ifCond .eq 7, 3) := by decide +kernel
theorem dX7_takeEdge_78 : decode cX7_takeEdge 78 = .ok (.iconst 0, 1) := by decide +kernel
theorem dX7_takeEdge_79 : decode cX7_takeEdge 79 = .ok (.goto 5, 3) := by decide +kernel
theorem dX7_takeEdge_82 : decode cX7_takeEdge 82 = .ok (.bipush 9, 2) := by decide +kernel
theorem dX7_takeEdge_84 : decode cX7_takeEdge 84 = .ok (.invokevirtual 49, 3) := by decide +kernel
theorem dX7_takeEdge_87 : decode cX7_takeEdge 87 = .ok (.invokevirtual 60, 3) := by decide +kernel
theorem dX7_takeEdge_90 : decode cX7_takeEdge 90 = .ok (.return_, 1) := by decide +kernel
theorem dX7_takeSign_0 : decode cX7_takeSign 0 = .ok (.aload_n 0, 1) := by decide +kernel
theorem dX7_takeSign_1 : decode cX7_takeSign 1 = .ok (.aload_n 0, 1) := by decide +kernel
theorem dX7_takeSign_2 : decode cX7_takeSign 2 = .ok (.getfield 34, 3) := by decide +kernel
theorem dX7_takeSign_5 : decode cX7_takeSign 5 = .ok (.ifCond .eq 15, 3) := by decide +kernel
theorem dX7_takeSign_8 : decode cX7_takeSign 8 = .ok (.aload_n 0, 1) := by decide +kernel
theorem dX7_takeSign_9 : decode cX7_takeSign 9 = .ok (.invokevirtual 56, 3) := by decide +kernel
theorem dX7_takeSign_12 : decode cX7_takeSign 12 = .ok (.iload_n 1, 1) := by decide +kernel
theorem dX7_takeSign_13 : decode cX7_takeSign 13 = .ok (.if_icmp .ne 7, 3) := by decide +kernel
theorem dX7_takeSign_16 : decode cX7_takeSign 16 = .ok (.iconst 1, 1) := by decide +kernel
theorem dX7_takeSign_17 : decode cX7_takeSign 17 = .ok (.goto 4, 3) := by decide +kernel
theorem dX7_takeSign_20 : decode cX7_takeSign 20 = .ok (.iconst 0, 1) := by decide +kernel
theorem dX7_takeSign_21 : decode cX7_takeSign 21 = .ok (.putfield 34, 3) := by decide +kernel
theorem dX7_takeSign_24 : decode cX7_takeSign 24 = .ok (.aload_n 0, 1) := by decide +kernel
theorem dX7_takeSign_25 : decode cX7_takeSign 25 = .ok (.getfield 34, 3) := by decide +kernel
theorem dX7_takeSign_28 : decode cX7_takeSign 28 = .ok (.ifCond .eq 13, 3) := by decide +kernel
theorem dX7_takeSign_31 : decode cX7_takeSign 31 = .ok (.aload_n 0, 1) := by decide +kernel
theorem dX7_takeSign_32 : decode cX7_takeSign 32 = .ok (.dup, 1) := by decide +kernel
theorem dX7_takeSign_33 : decode cX7_takeSign 33 = .ok (.getfield 31, 3) := by decide +kernel
theorem dX7_takeSign_36 : decode cX7_takeSign 36 = .ok (.iconst 1, 1) := by decide +kernel
theorem dX7_takeSign_37 : decode cX7_takeSign 37 = .ok (.iadd, 1) := by decide +kernel
theorem dX7_takeSign_38 : decode cX7_takeSign 38 = .ok (.putfield 31, 3) := by decide +kernel
theorem dX7_takeSign_41 : decode cX7_takeSign 41 = .ok (.return_, 1) := by decide +kernel
theorem dX7_takeDigit_0 : decode cX7_takeDigit 0 = .ok (.aload_n 0, 1) := by decide +kernel
theorem dX7_takeDigit_1 : decode cX7_takeDigit 1 = .ok (.invokevirtual 56, 3) := by decide +kernel
theorem dX7_takeDigit_4 : decode cX7_takeDigit 4 = .ok (.bipush 48, 2) := by decide +kernel
theorem dX7_takeDigit_6 : decode cX7_takeDigit 6 = .ok (.isub, 1) := by decide +kernel
theorem dX7_takeDigit_7 : decode cX7_takeDigit 7 = .ok (.istore_n 2, 1) := by decide +kernel
theorem dX7_takeDigit_8 : decode cX7_takeDigit 8 = .ok (.aload_n 0, 1) := by decide +kernel
theorem dX7_takeDigit_9 : decode cX7_takeDigit 9 = .ok (.aload_n 0, 1) := by decide +kernel
theorem dX7_takeDigit_10 : decode cX7_takeDigit 10 = .ok (.getfield 34, 3) := by decide +kernel
theorem dX7_takeDigit_13 : decode cX7_takeDigit 13 = .ok (.ifCond .eq 16, 3) := by decide +kernel
theorem dX7_takeDigit_16 : decode cX7_takeDigit 16 = .ok (.iload_n 2, 1) := by decide +kernel
theorem dX7_takeDigit_17 : decode cX7_takeDigit 17 = .ok (.ifCond .lt 12, 3) := by decide +kernel
theorem dX7_takeDigit_20 : decode cX7_takeDigit 20 = .ok (.iload_n 2, 1) := by decide +kernel
theorem dX7_takeDigit_21 : decode cX7_takeDigit 21 = .ok (.iload_n 1, 1) := by decide +kernel
theorem dX7_takeDigit_22 : decode cX7_takeDigit 22 = .ok (.if_icmp .gt 7, 3) := by decide +kernel
theorem dX7_takeDigit_25 : decode cX7_takeDigit 25 = .ok (.iconst 1, 1) := by decide +kernel
theorem dX7_takeDigit_26 : decode cX7_takeDigit 26 = .ok (.goto 4, 3) := by decide +kernel
theorem dX7_takeDigit_29 : decode cX7_takeDigit 29 = .ok (.iconst 0, 1) := by decide +kernel
theorem dX7_takeDigit_30 : decode cX7_takeDigit 30 = .ok (.putfield 34, 3) := by decide +kernel
theorem dX7_takeDigit_33 : decode cX7_takeDigit 33 = .ok (.aload_n 0, 1) := by decide +kernel
theorem dX7_takeDigit_34 : decode cX7_takeDigit 34 = .ok (.getfield 34, 3) := by decide +kernel
theorem dX7_takeDigit_37 : decode cX7_takeDigit 37 = .ok (.ifCond .ne 5, 3) := by decide +kernel
theorem dX7_takeDigit_40 : decode cX7_takeDigit 40 = .ok (.iconst 0, 1) := by decide +kernel
theorem dX7_takeDigit_41 : decode cX7_takeDigit 41 = .ok (.ireturn, 1) := by decide +kernel
theorem dX7_takeDigit_42 : decode cX7_takeDigit 42 = .ok (.aload_n 0, 1) := by decide +kernel
theorem dX7_takeDigit_43 : decode cX7_takeDigit 43 = .ok (.dup, 1) := by decide +kernel
theorem dX7_takeDigit_44 : decode cX7_takeDigit 44 = .ok (.getfield 31, 3) := by decide +kernel
theorem dX7_takeDigit_47 : decode cX7_takeDigit 47 = .ok (.iconst 1, 1) := by decide +kernel
theorem dX7_takeDigit_48 : decode cX7_takeDigit 48 = .ok (.iadd, 1) := by decide +kernel
theorem dX7_takeDigit_49 : decode cX7_takeDigit 49 = .ok (.putfield 31, 3) := by decide +kernel
theorem dX7_takeDigit_52 : decode cX7_takeDigit 52 = .ok (.iload_n 2, 1) := by decide +kernel
theorem dX7_takeDigit_53 : decode cX7_takeDigit 53 = .ok (.ireturn, 1) := by decide +kernel
theorem dX7_next_0 : decode cX7_next 0 = .ok (.aload_n 0, 1) := by decide +kernel
theorem dX7_next_1 : decode cX7_next 1 = .ok (.getfield 31, 3) := by decide +kernel
theorem dX7_next_4 : decode cX7_next 4 = .ok (.aload_n 0, 1) := by decide +kernel
theorem dX7_next_5 : decode cX7_next 5 = .ok (.getfield 27, 3) := by decide +kernel
theorem dX7_next_8 : decode cX7_next 8 = .ok (.if_icmp .ge 17, 3) := by decide +kernel
theorem dX7_next_11 : decode cX7_next 11 = .ok (.aload_n 0, 1) := by decide +kernel
theorem dX7_next_12 : decode cX7_next 12 = .ok (.getfield 14, 3) := by decide +kernel
theorem dX7_next_15 : decode cX7_next 15 = .ok (.aload_n 0, 1) := by decide +kernel
theorem dX7_next_16 : decode cX7_next 16 = .ok (.getfield 31, 3) := by decide +kernel
theorem dX7_next_19 : decode cX7_next 19 = .ok (.invokevirtual 64, 3) := by decide +kernel
theorem dX7_next_22 : decode cX7_next 22 = .ok (.goto 4, 3) := by decide +kernel
theorem dX7_next_25 : decode cX7_next 25 = .ok (.iconst (-1), 1) := by decide +kernel
theorem dX7_next_26 : decode cX7_next 26 = .ok (.ireturn, 1) := by decide +kernel
theorem dX8_init_0 : decode cX8_init 0 = .ok (.aload_n 0, 1) := by decide +kernel
theorem dX8_init_1 : decode cX8_init 1 = .ok (.invokespecial 1, 3) := by decide +kernel
theorem dX8_init_4 : decode cX8_init 4 = .ok (.aload_n 0, 1) := by decide +kernel
theorem dX8_init_5 : decode cX8_init 5 = .ok (.new 7, 3) := by decide +kernel
theorem dX8_init_8 : decode cX8_init 8 = .ok (.dup, 1) := by decide +kernel
theorem dX8_init_9 : decode cX8_init 9 = .ok (.invokespecial 9, 3) := by decide +kernel
theorem dX8_init_12 : decode cX8_init 12 = .ok (.putfield 10, 3) := by decide +kernel
theorem dX8_init_15 : decode cX8_init 15 = .ok (.aload_n 0, 1) := by decide +kernel
theorem dX8_init_16 : decode cX8_init 16 = .ok (.new 7, 3) := by decide +kernel
theorem dX8_init_19 : decode cX8_init 19 = .ok (.dup, 1) := by decide +kernel
theorem dX8_init_20 : decode cX8_init 20 = .ok (.invokespecial 9, 3) := by decide +kernel
theorem dX8_init_23 : decode cX8_init 23 = .ok (.putfield 16, 3) := by decide +kernel
theorem dX8_init_26 : decode cX8_init 26 = .ok (.aload_n 0, 1) := by decide +kernel
theorem dX8_init_27 : decode cX8_init 27 = .ok (.new 19, 3) := by decide +kernel
theorem dX8_init_30 : decode cX8_init 30 = .ok (.dup, 1) := by decide +kernel
theorem dX8_init_31 : decode cX8_init 31 = .ok (.invokespecial 21, 3) := by decide +kernel
theorem dX8_init_34 : decode cX8_init 34 = .ok (.putfield 22, 3) := by decide +kernel
theorem dX8_init_37 : decode cX8_init 37 = .ok (.aload_n 0, 1) := by decide +kernel
theorem dX8_init_38 : decode cX8_init 38 = .ok (.new 26, 3) := by decide +kernel
theorem dX8_init_41 : decode cX8_init 41 = .ok (.dup, 1) := by decide +kernel
theorem dX8_init_42 : decode cX8_init 42 = .ok (.invokespecial 28, 3) := by decide +kernel
theorem dX8_init_45 : decode cX8_init 45 = .ok (.putfield 29, 3) := by decide +kernel
theorem dX8_init_48 : decode cX8_init 48 = .ok (.aload_n 0, 1) := by decide +kernel
theorem dX8_init_49 : decode cX8_init 49 = .ok (.new 33, 3) := by decide +kernel
theorem dX8_init_52 : decode cX8_init 52 = .ok (.dup, 1) := by decide +kernel
theorem dX8_init_53 : decode cX8_init 53 = .ok (.invokespecial 35, 3) := by decide +kernel
theorem dX8_init_56 : decode cX8_init 56 = .ok (.putfield 36, 3) := by decide +kernel
theorem dX8_init_59 : decode cX8_init 59 = .ok (.aload_n 0, 1) := by decide +kernel
theorem dX8_init_60 : decode cX8_init 60 = .ok (.new 40, 3) := by decide +kernel
theorem dX8_init_63 : decode cX8_init 63 = .ok (.dup, 1) := by decide +kernel
theorem dX8_init_64 : decode cX8_init 64 = .ok (.invokespecial 42, 3) := by decide +kernel
theorem dX8_init_67 : decode cX8_init 67 = .ok (.putfield 43, 3) := by decide +kernel
theorem dX8_init_70 : decode cX8_init 70 = .ok (.return_, 1) := by decide +kernel
theorem dX8_reset_0 : decode cX8_reset 0 = .ok (.iload_n 1, 1) := by decide +kernel
theorem dX8_reset_1 : decode cX8_reset 1 = .ok (.iconst 1, 1) := by decide +kernel
theorem dX8_reset_2 : decode cX8_reset 2 = .ok (.bipush 6, 2) := by decide +kernel
theorem dX8_reset_4 : decode cX8_reset 4 = .ok (.invokestatic 47, 3) := by decide +kernel
theorem dX8_reset_7 : decode cX8_reset 7 = .ok (.ifCond .eq 13, 3) := by decide +kernel
theorem dX8_reset_10 : decode cX8_reset 10 = .ok (.iload_n 2, 1) := by decide +kernel
theorem dX8_reset_11 : decode cX8_reset 11 = .ok (.iconst 1, 1) := by decide +kernel
theorem dX8_reset_12 : decode cX8_reset 12 = .ok (.bipush 6, 2) := by decide +kernel
theorem dX8_reset_14 : decode cX8_reset 14 = .ok (.invokestatic 47, 3) := by decide +kernel
theorem dX8_reset_17 : decode cX8_reset 17 = .ok (.ifCond .ne 7, 3) := by decide +kernel
theorem dX8_reset_20 : decode cX8_reset 20 = .ok (.sipush (-1001), 3) := by decide +kernel
theorem dX8_reset_23 : decode cX8_reset 23 = .ok (.ireturn, 1) := by decide +kernel
theorem dX8_reset_24 : decode cX8_reset 24 = .ok (.aload_n 0, 1) := by decide +kernel
theorem dX8_reset_25 : decode cX8_reset 25 = .ok (.getfield 10, 3) := by decide +kernel
theorem dX8_reset_28 : decode cX8_reset 28 = .ok (.invokevirtual 51, 3) := by decide +kernel
theorem dX8_reset_31 : decode cX8_reset 31 = .ok (.istore_n 3, 1) := by decide +kernel
theorem dX8_reset_32 : decode cX8_reset 32 = .ok (.aload_n 0, 1) := by decide +kernel
theorem dX8_reset_33 : decode cX8_reset 33 = .ok (.getfield 22, 3) := by decide +kernel
theorem dX8_reset_36 : decode cX8_reset 36 = .ok (.aload_n 0, 1) := by decide +kernel
theorem dX8_reset_37 : decode cX8_reset 37 = .ok (.getfield 10, 3) := by decide +kernel
theorem dX8_reset_40 : decode cX8_reset 40 = .ok (.invokevirtual 55, 3) := by decide +kernel
theorem dX8_reset_43 : decode cX8_reset 43 = .ok (.aload_n 0, 1) := by decide +kernel
theorem dX8_reset_44 : decode cX8_reset 44 = .ok (.getfield 10, 3) := by decide +kernel
theorem dX8_reset_47 : decode cX8_reset 47 = .ok (.getfield 59, 3) := by decide +kernel
theorem dX8_reset_50 : decode cX8_reset 50 = .ok (.iload_n 1, 1) := by decide +kernel
theorem dX8_reset_51 : decode cX8_reset 51 = .ok (.iload_n 2, 1) := by decide +kernel
theorem dX8_reset_52 : decode cX8_reset 52 = .ok (.invokevirtual 63, 3) := by decide +kernel
theorem dX8_reset_55 : decode cX8_reset 55 = .ok (.iload_n 3, 1) := by decide +kernel
theorem dX8_reset_56 : decode cX8_reset 56 = .ok (.ireturn, 1) := by decide +kernel
theorem dX8_addScrap_0 : decode cX8_addScrap 0 = .ok (.iload_n 1, 1) := by decide +kernel
theorem dX8_addScrap_1 : decode cX8_addScrap 1 = .ok (.invokestatic 69, 3) := by decide +kernel
theorem dX8_addScrap_4 : decode cX8_addScrap 4 = .ok (.ifCond .eq 35, 3) := by decide +kernel
theorem dX8_addScrap_7 : decode cX8_addScrap 7 = .ok (.iload_n 2, 1) := by decide +kernel
theorem dX8_addScrap_8 : decode cX8_addScrap 8 = .ok (.invokestatic 69, 3) := by decide +kernel
theorem dX8_addScrap_11 : decode cX8_addScrap 11 = .ok (.ifCond .eq 28, 3) := by decide +kernel
theorem dX8_addScrap_14 : decode cX8_addScrap 14 = .ok (.iload_n 3, 1) := by decide +kernel
theorem dX8_addScrap_15 : decode cX8_addScrap 15 = .ok (.invokestatic 69, 3) := by decide +kernel
theorem dX8_addScrap_18 : decode cX8_addScrap 18 = .ok (.ifCond .eq 21, 3) := by decide +kernel
theorem dX8_addScrap_21 : decode cX8_addScrap 21 = .ok (.iload 4, 2) := by decide +kernel
theorem dX8_addScrap_23 : decode cX8_addScrap 23 = .ok (.invokestatic 69, 3) := by decide +kernel
theorem dX8_addScrap_26 : decode cX8_addScrap 26 = .ok (.ifCond .eq 13, 3) := by decide +kernel
theorem dX8_addScrap_29 : decode cX8_addScrap 29 = .ok (.iload 5, 2) := by decide +kernel
theorem dX8_addScrap_31 : decode cX8_addScrap 31 = .ok (.iconst 0, 1) := by decide +kernel
theorem dX8_addScrap_32 : decode cX8_addScrap 32 = .ok (.iconst 1, 1) := by decide +kernel
theorem dX8_addScrap_33 : decode cX8_addScrap 33 = .ok (.invokestatic 47, 3) := by decide +kernel
theorem dX8_addScrap_36 : decode cX8_addScrap 36 = .ok (.ifCond .ne 7, 3) := by decide +kernel
theorem dX8_addScrap_39 : decode cX8_addScrap 39 = .ok (.sipush (-1001), 3) := by decide +kernel
theorem dX8_addScrap_42 : decode cX8_addScrap 42 = .ok (.ireturn, 1) := by decide +kernel
theorem dX8_addScrap_43 : decode cX8_addScrap 43 = .ok (.aload_n 0, 1) := by decide +kernel
theorem dX8_addScrap_44 : decode cX8_addScrap 44 = .ok (.getfield 10, 3) := by decide +kernel
theorem dX8_addScrap_47 : decode cX8_addScrap 47 = .ok (.getfield 73, 3) := by decide +kernel
theorem dX8_addScrap_50 : decode cX8_addScrap 50 = .ok (.invokevirtual 77, 3) := by decide +kernel
theorem dX8_addScrap_53 : decode cX8_addScrap 53 = .ok (.bipush 12, 2) := by decide +kernel
theorem dX8_addScrap_55 : decode cX8_addScrap 55 = .ok (.if_icmp .lt 7, 3) := by decide +kernel
theorem dX8_addScrap_58 : decode cX8_addScrap 58 = .ok (.sipush (-1003), 3) := by decide +kernel
theorem dX8_addScrap_61 : decode cX8_addScrap 61 = .ok (.ireturn, 1) := by decide +kernel
theorem dX8_addScrap_62 : decode cX8_addScrap 62 = .ok (.aload_n 0, 1) := by decide +kernel
theorem dX8_addScrap_63 : decode cX8_addScrap 63 = .ok (.getfield 43, 3) := by decide +kernel
theorem dX8_addScrap_66 : decode cX8_addScrap 66 = .ok (.iconst 0, 1) := by decide +kernel
theorem dX8_addScrap_67 : decode cX8_addScrap 67 = .ok (.iload_n 1, 1) := by decide +kernel
theorem dX8_addScrap_68 : decode cX8_addScrap 68 = .ok (.iconst 0, 1) := by decide +kernel
theorem dX8_addScrap_69 : decode cX8_addScrap 69 = .ok (.invokevirtual 82, 3) := by decide +kernel
theorem dX8_addScrap_72 : decode cX8_addScrap 72 = .ok (.aload_n 0, 1) := by decide +kernel
theorem dX8_addScrap_73 : decode cX8_addScrap 73 = .ok (.getfield 43, 3) := by decide +kernel
theorem dX8_addScrap_76 : decode cX8_addScrap 76 = .ok (.iconst 1, 1) := by decide +kernel
theorem dX8_addScrap_77 : decode cX8_addScrap 77 = .ok (.iload_n 2, 1) := by decide +kernel
theorem dX8_addScrap_78 : decode cX8_addScrap 78 = .ok (.iconst 0, 1) := by decide +kernel
theorem dX8_addScrap_79 : decode cX8_addScrap 79 = .ok (.invokevirtual 82, 3) := by decide +kernel
theorem dX8_addScrap_82 : decode cX8_addScrap 82 = .ok (.aload_n 0, 1) := by decide +kernel
theorem dX8_addScrap_83 : decode cX8_addScrap 83 = .ok (.getfield 43, 3) := by decide +kernel
theorem dX8_addScrap_86 : decode cX8_addScrap 86 = .ok (.iconst 2, 1) := by decide +kernel
theorem dX8_addScrap_87 : decode cX8_addScrap 87 = .ok (.iload_n 3, 1) := by decide +kernel
theorem dX8_addScrap_88 : decode cX8_addScrap 88 = .ok (.iconst 0, 1) := by decide +kernel
theorem dX8_addScrap_89 : decode cX8_addScrap 89 = .ok (.invokevirtual 82, 3) := by decide +kernel
theorem dX8_addScrap_92 : decode cX8_addScrap 92 = .ok (.aload_n 0, 1) := by decide +kernel
theorem dX8_addScrap_93 : decode cX8_addScrap 93 = .ok (.getfield 43, 3) := by decide +kernel
theorem dX8_addScrap_96 : decode cX8_addScrap 96 = .ok (.iconst 3, 1) := by decide +kernel
theorem dX8_addScrap_97 : decode cX8_addScrap 97 = .ok (.iload 4, 2) := by decide +kernel
theorem dX8_addScrap_99 : decode cX8_addScrap 99 = .ok (.iconst 0, 1) := by decide +kernel
theorem dX8_addScrap_100 : decode cX8_addScrap 100 = .ok (.invokevirtual 82, 3) := by decide +kernel
theorem dX8_addScrap_103 : decode cX8_addScrap 103 = .ok (.aload_n 0, 1) := by decide +kernel
theorem dX8_addScrap_104 : decode cX8_addScrap 104 = .ok (.getfield 43, 3) := by decide +kernel
theorem dX8_addScrap_107 : decode cX8_addScrap 107 = .ok (.iload 5, 2) := by decide +kernel
theorem dX8_addScrap_109 : decode cX8_addScrap 109 = .ok (.invokevirtual 86, 3) := by decide +kernel
theorem dX8_addScrap_112 : decode cX8_addScrap 112 = .ok (.aload_n 0, 1) := by decide +kernel
theorem dX8_addScrap_113 : decode cX8_addScrap 113 = .ok (.aload_n 0, 1) := by decide +kernel
theorem dX8_addScrap_114 : decode cX8_addScrap 114 = .ok (.getfield 43, 3) := by decide +kernel
theorem dX8_addScrap_117 : decode cX8_addScrap 117 = .ok (.invokevirtual 90, 3) := by decide +kernel
theorem dX8_addScrap_120 : decode cX8_addScrap 120 = .ok (.ireturn, 1) := by decide +kernel
theorem dX8_add_0 : decode cX8_add 0 = .ok (.aload_n 0, 1) := by decide +kernel
theorem dX8_add_1 : decode cX8_add 1 = .ok (.getfield 36, 3) := by decide +kernel
theorem dX8_add_4 : decode cX8_add 4 = .ok (.invokevirtual 94, 3) := by decide +kernel
theorem dX8_add_7 : decode cX8_add 7 = .ok (.aload_n 0, 1) := by decide +kernel
theorem dX8_add_8 : decode cX8_add 8 = .ok (.getfield 36, 3) := by decide +kernel
theorem dX8_add_11 : decode cX8_add 11 = .ok (.invokevirtual 97, 3) := by decide +kernel
theorem dX8_add_14 : decode cX8_add 14 = .ok (.ifCond .ne 7, 3) := by decide +kernel
theorem dX8_add_17 : decode cX8_add 17 = .ok (.sipush (-1002), 3) := by decide +kernel
theorem dX8_add_20 : decode cX8_add 20 = .ok (.ireturn, 1) := by decide +kernel
theorem dX8_add_21 : decode cX8_add 21 = .ok (.aload_n 0, 1) := by decide +kernel
theorem dX8_add_22 : decode cX8_add 22 = .ok (.getfield 10, 3) := by decide +kernel
theorem dX8_add_25 : decode cX8_add 25 = .ok (.getfield 73, 3) := by decide +kernel
theorem dX8_add_28 : decode cX8_add 28 = .ok (.invokevirtual 77, 3) := by decide +kernel
theorem dX8_add_31 : decode cX8_add 31 = .ok (.bipush 12, 2) := by decide +kernel
theorem dX8_add_33 : decode cX8_add 33 = .ok (.if_icmp .lt 7, 3) := by decide +kernel
theorem dX8_add_36 : decode cX8_add 36 = .ok (.sipush (-1003), 3) := by decide +kernel
theorem dX8_add_39 : decode cX8_add 39 = .ok (.ireturn, 1) := by decide +kernel
theorem dX8_add_40 : decode cX8_add 40 = .ok (.aload_n 0, 1) := by decide +kernel
theorem dX8_add_41 : decode cX8_add 41 = .ok (.aload_n 0, 1) := by decide +kernel
theorem dX8_add_42 : decode cX8_add 42 = .ok (.getfield 36, 3) := by decide +kernel
theorem dX8_add_45 : decode cX8_add 45 = .ok (.invokevirtual 101, 3) := by decide +kernel
theorem dX8_add_48 : decode cX8_add 48 = .ok (.invokevirtual 90, 3) := by decide +kernel
theorem dX8_add_51 : decode cX8_add 51 = .ok (.ireturn, 1) := by decide +kernel
theorem dX8_removeScrap_0 : decode cX8_removeScrap 0 = .ok (.aload_n 0, 1) := by decide +kernel
theorem dX8_removeScrap_1 : decode cX8_removeScrap 1 = .ok (.iload_n 1, 1) := by decide +kernel
theorem dX8_removeScrap_2 : decode cX8_removeScrap 2 = .ok (.invokevirtual 104, 3) := by decide +kernel
theorem dX8_removeScrap_5 : decode cX8_removeScrap 5 = .ok (.ifCond .ne 7, 3) := by decide +kernel
theorem dX8_removeScrap_8 : decode cX8_removeScrap 8 = .ok (.sipush (-1001), 3) := by decide +kernel
theorem dX8_removeScrap_11 : decode cX8_removeScrap 11 = .ok (.ireturn, 1) := by decide +kernel
theorem dX8_removeScrap_12 : decode cX8_removeScrap 12 = .ok (.aload_n 0, 1) := by decide +kernel
theorem dX8_removeScrap_13 : decode cX8_removeScrap 13 = .ok (.getfield 22, 3) := by decide +kernel
theorem dX8_removeScrap_16 : decode cX8_removeScrap 16 = .ok (.aload_n 0, 1) := by decide +kernel
theorem dX8_removeScrap_17 : decode cX8_removeScrap 17 = .ok (.getfield 10, 3) := by decide +kernel
theorem dX8_removeScrap_20 : decode cX8_removeScrap 20 = .ok (.invokevirtual 55, 3) := by decide +kernel
theorem dX8_removeScrap_23 : decode cX8_removeScrap 23 = .ok (.aload_n 0, 1) := by decide +kernel
theorem dX8_removeScrap_24 : decode cX8_removeScrap 24 = .ok (.getfield 10, 3) := by decide +kernel
theorem dX8_removeScrap_27 : decode cX8_removeScrap 27 = .ok (.iload_n 1, 1) := by decide +kernel
theorem dX8_removeScrap_28 : decode cX8_removeScrap 28 = .ok (.invokevirtual 107, 3) := by decide +kernel
theorem dX8_removeScrap_31 : decode cX8_removeScrap 31 = .ok (.aload_n 0, 1) := by decide +kernel
theorem dX8_removeScrap_32 : decode cX8_removeScrap 32 = .ok (.getfield 10, 3) := by decide +kernel
theorem dX8_removeScrap_35 : decode cX8_removeScrap 35 = .ok (.getfield 73, 3) := by decide +kernel
theorem dX8_removeScrap_38 : decode cX8_removeScrap 38 = .ok (.invokevirtual 77, 3) := by decide +kernel
theorem dX8_removeScrap_41 : decode cX8_removeScrap 41 = .ok (.ireturn, 1) := by decide +kernel
theorem dX8_scrap_0 : decode cX8_scrap 0 = .ok (.aload_n 0, 1) := by decide +kernel
theorem dX8_scrap_1 : decode cX8_scrap 1 = .ok (.iload_n 1, 1) := by decide +kernel
theorem dX8_scrap_2 : decode cX8_scrap 2 = .ok (.invokevirtual 104, 3) := by decide +kernel
theorem dX8_scrap_5 : decode cX8_scrap 5 = .ok (.ifCond .eq 12, 3) := by decide +kernel
theorem dX8_scrap_8 : decode cX8_scrap 8 = .ok (.iload_n 2, 1) := by decide +kernel
theorem dX8_scrap_9 : decode cX8_scrap 9 = .ok (.iconst 0, 1) := by decide +kernel
theorem dX8_scrap_10 : decode cX8_scrap 10 = .ok (.iconst 5, 1) := by decide +kernel
theorem dX8_scrap_11 : decode cX8_scrap 11 = .ok (.invokestatic 47, 3) := by decide +kernel
theorem dX8_scrap_14 : decode cX8_scrap 14 = .ok (.ifCond .ne 7, 3) := by decide +kernel
theorem dX8_scrap_17 : decode cX8_scrap 17 = .ok (.sipush (-1001), 3) := by decide +kernel
theorem dX8_scrap_20 : decode cX8_scrap 20 = .ok (.ireturn, 1) := by decide +kernel
theorem dX8_scrap_21 : decode cX8_scrap 21 = .ok (.iload_n 2, 1) := by decide +kernel
theorem dX8_scrap_22 : decode cX8_scrap 22 = .ok (.ifCond .ne 15, 3) := by decide +kernel
theorem dX8_scrap_25 : decode cX8_scrap 25 = .ok (.aload_n 0, 1) := by decide +kernel
theorem dX8_scrap_26 : decode cX8_scrap 26 = .ok (.getfield 10, 3) := by decide +kernel
theorem dX8_scrap_29 : decode cX8_scrap 29 = .ok (.getfield 73, 3) := by decide +kernel
theorem dX8_scrap_32 : decode cX8_scrap 32 = .ok (.iload_n 1, 1) := by decide +kernel
theorem dX8_scrap_33 : decode cX8_scrap 33 = .ok (.invokevirtual 110, 3) := by decide +kernel
theorem dX8_scrap_36 : decode cX8_scrap 36 = .ok (.ireturn, 1) := by decide +kernel
theorem dX8_scrap_37 : decode cX8_scrap 37 = .ok (.iload_n 2, 1) := by decide +kernel
theorem dX8_scrap_38 : decode cX8_scrap 38 = .ok (.iconst 1, 1) := by decide +kernel
theorem dX8_scrap_39 : decode cX8_scrap 39 = .ok (.if_icmp .ne 15, 3) := by decide +kernel
theorem dX8_scrap_42 : decode cX8_scrap 42 = .ok (.aload_n 0, 1) := by decide +kernel
theorem dX8_scrap_43 : decode cX8_scrap 43 = .ok (.getfield 10, 3) := by decide +kernel
theorem dX8_scrap_46 : decode cX8_scrap 46 = .ok (.getfield 59, 3) := by decide +kernel
theorem dX8_scrap_49 : decode cX8_scrap 49 = .ok (.iload_n 1, 1) := by decide +kernel
theorem dX8_scrap_50 : decode cX8_scrap 50 = .ok (.invokevirtual 114, 3) := by decide +kernel
theorem dX8_scrap_53 : decode cX8_scrap 53 = .ok (.ireturn, 1) := by decide +kernel
theorem dX8_scrap_54 : decode cX8_scrap 54 = .ok (.aload_n 0, 1) := by decide +kernel
theorem dX8_scrap_55 : decode cX8_scrap 55 = .ok (.getfield 10, 3) := by decide +kernel
theorem dX8_scrap_58 : decode cX8_scrap 58 = .ok (.getfield 59, 3) := by decide +kernel
theorem dX8_scrap_61 : decode cX8_scrap 61 = .ok (.iload_n 1, 1) := by decide +kernel
theorem dX8_scrap_62 : decode cX8_scrap 62 = .ok (.invokevirtual 117, 3) := by decide +kernel
theorem dX8_scrap_65 : decode cX8_scrap 65 = .ok (.ifCond .eq 12, 3) := by decide +kernel
theorem dX8_scrap_68 : decode cX8_scrap 68 = .ok (.aload_n 0, 1) := by decide +kernel
theorem dX8_scrap_69 : decode cX8_scrap 69 = .ok (.iload_n 1, 1) := by decide +kernel
theorem dX8_scrap_70 : decode cX8_scrap 70 = .ok (.iload_n 2, 1) := by decide +kernel
theorem dX8_scrap_71 : decode cX8_scrap 71 = .ok (.invokevirtual 120, 3) := by decide +kernel
theorem dX8_scrap_74 : decode cX8_scrap 74 = .ok (.goto 6, 3) := by decide +kernel
theorem dX8_scrap_77 : decode cX8_scrap 77 = .ok (.sipush (-1004), 3) := by decide +kernel
end
section
theorem dX8_scrap_80 : decode cX8_scrap 80 = .ok (.ireturn, 1) := by decide +kernel
theorem dX8_edge_0 : decode cX8_edge 0 = .ok (.aload_n 0, 1) := by decide +kernel
theorem dX8_edge_1 : decode cX8_edge 1 = .ok (.iload_n 1, 1) := by decide +kernel
theorem dX8_edge_2 : decode cX8_edge 2 = .ok (.invokevirtual 104, 3) := by decide +kernel
theorem dX8_edge_5 : decode cX8_edge 5 = .ok (.ifCond .eq 27, 3) := by decide +kernel
theorem dX8_edge_8 : decode cX8_edge 8 = .ok (.iload_n 2, 1) := by decide +kernel
theorem dX8_edge_9 : decode cX8_edge 9 = .ok (.invokestatic 124, 3) := by decide +kernel
theorem dX8_edge_12 : decode cX8_edge 12 = .ok (.ifCond .eq 20, 3) := by decide +kernel
theorem dX8_edge_15 : decode cX8_edge 15 = .ok (.iload_n 3, 1) := by decide +kernel
theorem dX8_edge_16 : decode cX8_edge 16 = .ok (.invokestatic 127, 3) := by decide +kernel
theorem dX8_edge_19 : decode cX8_edge 19 = .ok (.ifCond .eq 13, 3) := by decide +kernel
theorem dX8_edge_22 : decode cX8_edge 22 = .ok (.iload 4, 2) := by decide +kernel
theorem dX8_edge_24 : decode cX8_edge 24 = .ok (.iconst 0, 1) := by decide +kernel
theorem dX8_edge_25 : decode cX8_edge 25 = .ok (.iconst 1, 1) := by decide +kernel
theorem dX8_edge_26 : decode cX8_edge 26 = .ok (.invokestatic 47, 3) := by decide +kernel
theorem dX8_edge_29 : decode cX8_edge 29 = .ok (.ifCond .ne 7, 3) := by decide +kernel
theorem dX8_edge_32 : decode cX8_edge 32 = .ok (.sipush (-1001), 3) := by decide +kernel
theorem dX8_edge_35 : decode cX8_edge 35 = .ok (.ireturn, 1) := by decide +kernel
theorem dX8_edge_36 : decode cX8_edge 36 = .ok (.iload 4, 2) := by decide +kernel
theorem dX8_edge_38 : decode cX8_edge 38 = .ok (.ifCond .ne 19, 3) := by decide +kernel
theorem dX8_edge_41 : decode cX8_edge 41 = .ok (.aload_n 0, 1) := by decide +kernel
theorem dX8_edge_42 : decode cX8_edge 42 = .ok (.getfield 10, 3) := by decide +kernel
theorem dX8_edge_45 : decode cX8_edge 45 = .ok (.getfield 73, 3) := by decide +kernel
theorem dX8_edge_48 : decode cX8_edge 48 = .ok (.iload_n 1, 1) := by decide +kernel
theorem dX8_edge_49 : decode cX8_edge 49 = .ok (.iload_n 2, 1) := by decide +kernel
theorem dX8_edge_50 : decode cX8_edge 50 = .ok (.iload_n 3, 1) := by decide +kernel
theorem dX8_edge_51 : decode cX8_edge 51 = .ok (.invokevirtual 130, 3) := by decide +kernel
theorem dX8_edge_54 : decode cX8_edge 54 = .ok (.goto 16, 3) := by decide +kernel
theorem dX8_edge_57 : decode cX8_edge 57 = .ok (.aload_n 0, 1) := by decide +kernel
theorem dX8_edge_58 : decode cX8_edge 58 = .ok (.getfield 10, 3) := by decide +kernel
theorem dX8_edge_61 : decode cX8_edge 61 = .ok (.getfield 73, 3) := by decide +kernel
theorem dX8_edge_64 : decode cX8_edge 64 = .ok (.iload_n 1, 1) := by decide +kernel
theorem dX8_edge_65 : decode cX8_edge 65 = .ok (.iload_n 2, 1) := by decide +kernel
theorem dX8_edge_66 : decode cX8_edge 66 = .ok (.iload_n 3, 1) := by decide +kernel
theorem dX8_edge_67 : decode cX8_edge 67 = .ok (.invokevirtual 134, 3) := by decide +kernel
theorem dX8_edge_70 : decode cX8_edge 70 = .ok (.ireturn, 1) := by decide +kernel
theorem dX8_undo_0 : decode cX8_undo 0 = .ok (.aload_n 0, 1) := by decide +kernel
theorem dX8_undo_1 : decode cX8_undo 1 = .ok (.getfield 22, 3) := by decide +kernel
theorem dX8_undo_4 : decode cX8_undo 4 = .ok (.invokevirtual 137, 3) := by decide +kernel
theorem dX8_undo_7 : decode cX8_undo 7 = .ok (.ifCond .ne 7, 3) := by decide +kernel
theorem dX8_undo_10 : decode cX8_undo 10 = .ok (.sipush (-1002), 3) := by decide +kernel
theorem dX8_undo_13 : decode cX8_undo 13 = .ok (.ireturn, 1) := by decide +kernel
theorem dX8_undo_14 : decode cX8_undo 14 = .ok (.aload_n 0, 1) := by decide +kernel
theorem dX8_undo_15 : decode cX8_undo 15 = .ok (.getfield 22, 3) := by decide +kernel
theorem dX8_undo_18 : decode cX8_undo 18 = .ok (.aload_n 0, 1) := by decide +kernel
theorem dX8_undo_19 : decode cX8_undo 19 = .ok (.getfield 10, 3) := by decide +kernel
theorem dX8_undo_22 : decode cX8_undo 22 = .ok (.invokevirtual 138, 3) := by decide +kernel
theorem dX8_undo_25 : decode cX8_undo 25 = .ok (.aload_n 0, 1) := by decide +kernel
theorem dX8_undo_26 : decode cX8_undo 26 = .ok (.getfield 22, 3) := by decide +kernel
theorem dX8_undo_29 : decode cX8_undo 29 = .ok (.invokevirtual 137, 3) := by decide +kernel
theorem dX8_undo_32 : decode cX8_undo 32 = .ok (.ireturn, 1) := by decide +kernel
theorem dX8_count_0 : decode cX8_count 0 = .ok (.iload_n 1, 1) := by decide +kernel
theorem dX8_count_1 : decode cX8_count 1 = .ok (.tableswitch 192 0 11 #[63, 74, 82, 93, 104, 123, 131, 139, 148, 157, 176, 184], 63) := by decide +kernel
theorem dX8_count_64 : decode cX8_count 64 = .ok (.aload_n 0, 1) := by decide +kernel
theorem dX8_count_65 : decode cX8_count 65 = .ok (.getfield 10, 3) := by decide +kernel
theorem dX8_count_68 : decode cX8_count 68 = .ok (.getfield 73, 3) := by decide +kernel
theorem dX8_count_71 : decode cX8_count 71 = .ok (.invokevirtual 77, 3) := by decide +kernel
theorem dX8_count_74 : decode cX8_count 74 = .ok (.ireturn, 1) := by decide +kernel
theorem dX8_count_75 : decode cX8_count 75 = .ok (.aload_n 0, 1) := by decide +kernel
theorem dX8_count_76 : decode cX8_count 76 = .ok (.getfield 10, 3) := by decide +kernel
theorem dX8_count_79 : decode cX8_count 79 = .ok (.invokevirtual 51, 3) := by decide +kernel
theorem dX8_count_82 : decode cX8_count 82 = .ok (.ireturn, 1) := by decide +kernel
theorem dX8_count_83 : decode cX8_count 83 = .ok (.aload_n 0, 1) := by decide +kernel
theorem dX8_count_84 : decode cX8_count 84 = .ok (.getfield 10, 3) := by decide +kernel
theorem dX8_count_87 : decode cX8_count 87 = .ok (.getfield 59, 3) := by decide +kernel
theorem dX8_count_90 : decode cX8_count 90 = .ok (.invokevirtual 141, 3) := by decide +kernel
theorem dX8_count_93 : decode cX8_count 93 = .ok (.ireturn, 1) := by decide +kernel
theorem dX8_count_94 : decode cX8_count 94 = .ok (.aload_n 0, 1) := by decide +kernel
theorem dX8_count_95 : decode cX8_count 95 = .ok (.getfield 10, 3) := by decide +kernel
theorem dX8_count_98 : decode cX8_count 98 = .ok (.getfield 59, 3) := by decide +kernel
theorem dX8_count_101 : decode cX8_count 101 = .ok (.invokevirtual 144, 3) := by decide +kernel
theorem dX8_count_104 : decode cX8_count 104 = .ok (.ireturn, 1) := by decide +kernel
theorem dX8_count_105 : decode cX8_count 105 = .ok (.aload_n 0, 1) := by decide +kernel
theorem dX8_count_106 : decode cX8_count 106 = .ok (.getfield 29, 3) := by decide +kernel
theorem dX8_count_109 : decode cX8_count 109 = .ok (.aload_n 0, 1) := by decide +kernel
theorem dX8_count_110 : decode cX8_count 110 = .ok (.getfield 10, 3) := by decide +kernel
theorem dX8_count_113 : decode cX8_count 113 = .ok (.invokevirtual 147, 3) := by decide +kernel
theorem dX8_count_116 : decode cX8_count 116 = .ok (.aload_n 0, 1) := by decide +kernel
theorem dX8_count_117 : decode cX8_count 117 = .ok (.getfield 29, 3) := by decide +kernel
theorem dX8_count_120 : decode cX8_count 120 = .ok (.invokevirtual 150, 3) := by decide +kernel
theorem dX8_count_123 : decode cX8_count 123 = .ok (.ireturn, 1) := by decide +kernel
theorem dX8_count_124 : decode cX8_count 124 = .ok (.aload_n 0, 1) := by decide +kernel
theorem dX8_count_125 : decode cX8_count 125 = .ok (.getfield 10, 3) := by decide +kernel
theorem dX8_count_128 : decode cX8_count 128 = .ok (.invokevirtual 151, 3) := by decide +kernel
theorem dX8_count_131 : decode cX8_count 131 = .ok (.ireturn, 1) := by decide +kernel
theorem dX8_count_132 : decode cX8_count 132 = .ok (.aload_n 0, 1) := by decide +kernel
theorem dX8_count_133 : decode cX8_count 133 = .ok (.getfield 10, 3) := by decide +kernel
theorem dX8_count_136 : decode cX8_count 136 = .ok (.invokevirtual 154, 3) := by decide +kernel
theorem dX8_count_139 : decode cX8_count 139 = .ok (.ireturn, 1) := by decide +kernel
theorem dX8_count_140 : decode cX8_count 140 = .ok (.aload_n 0, 1) := by decide +kernel
theorem dX8_count_141 : decode cX8_count 141 = .ok (.getfield 10, 3) := by decide +kernel
theorem dX8_count_144 : decode cX8_count 144 = .ok (.iconst 0, 1) := by decide +kernel
theorem dX8_count_145 : decode cX8_count 145 = .ok (.invokevirtual 157, 3) := by decide +kernel
theorem dX8_count_148 : decode cX8_count 148 = .ok (.ireturn, 1) := by decide +kernel
theorem dX8_count_149 : decode cX8_count 149 = .ok (.aload_n 0, 1) := by decide +kernel
theorem dX8_count_150 : decode cX8_count 150 = .ok (.getfield 10, 3) := by decide +kernel
theorem dX8_count_153 : decode cX8_count 153 = .ok (.iconst 4, 1) := by decide +kernel
theorem dX8_count_154 : decode cX8_count 154 = .ok (.invokevirtual 157, 3) := by decide +kernel
theorem dX8_count_157 : decode cX8_count 157 = .ok (.ireturn, 1) := by decide +kernel
theorem dX8_count_158 : decode cX8_count 158 = .ok (.aload_n 0, 1) := by decide +kernel
theorem dX8_count_159 : decode cX8_count 159 = .ok (.getfield 10, 3) := by decide +kernel
theorem dX8_count_162 : decode cX8_count 162 = .ok (.getfield 59, 3) := by decide +kernel
theorem dX8_count_165 : decode cX8_count 165 = .ok (.invokevirtual 160, 3) := by decide +kernel
theorem dX8_count_168 : decode cX8_count 168 = .ok (.aload_n 0, 1) := by decide +kernel
theorem dX8_count_169 : decode cX8_count 169 = .ok (.getfield 10, 3) := by decide +kernel
theorem dX8_count_172 : decode cX8_count 172 = .ok (.invokevirtual 51, 3) := by decide +kernel
theorem dX8_count_175 : decode cX8_count 175 = .ok (.isub, 1) := by decide +kernel
theorem dX8_count_176 : decode cX8_count 176 = .ok (.ireturn, 1) := by decide +kernel
theorem dX8_count_177 : decode cX8_count 177 = .ok (.aload_n 0, 1) := by decide +kernel
theorem dX8_count_178 : decode cX8_count 178 = .ok (.getfield 22, 3) := by decide +kernel
theorem dX8_count_181 : decode cX8_count 181 = .ok (.invokevirtual 137, 3) := by decide +kernel
theorem dX8_count_184 : decode cX8_count 184 = .ok (.ireturn, 1) := by decide +kernel
theorem dX8_count_185 : decode cX8_count 185 = .ok (.aload_n 0, 1) := by decide +kernel
theorem dX8_count_186 : decode cX8_count 186 = .ok (.getfield 36, 3) := by decide +kernel
theorem dX8_count_189 : decode cX8_count 189 = .ok (.invokevirtual 163, 3) := by decide +kernel
theorem dX8_count_192 : decode cX8_count 192 = .ok (.ireturn, 1) := by decide +kernel
theorem dX8_count_193 : decode cX8_count 193 = .ok (.sipush (-1001), 3) := by decide +kernel
theorem dX8_count_196 : decode cX8_count 196 = .ok (.ireturn, 1) := by decide +kernel
theorem dX8_lay_0 : decode cX8_lay 0 = .ok (.aload_n 0, 1) := by decide +kernel
theorem dX8_lay_1 : decode cX8_lay 1 = .ok (.iload_n 1, 1) := by decide +kernel
theorem dX8_lay_2 : decode cX8_lay 2 = .ok (.invokevirtual 104, 3) := by decide +kernel
theorem dX8_lay_5 : decode cX8_lay 5 = .ok (.ifCond .eq 18, 3) := by decide +kernel
theorem dX8_lay_8 : decode cX8_lay 8 = .ok (.aload_n 0, 1) := by decide +kernel
theorem dX8_lay_9 : decode cX8_lay 9 = .ok (.iload_n 2, 1) := by decide +kernel
theorem dX8_lay_10 : decode cX8_lay 10 = .ok (.invokevirtual 166, 3) := by decide +kernel
theorem dX8_lay_13 : decode cX8_lay 13 = .ok (.ifCond .eq 10, 3) := by decide +kernel
theorem dX8_lay_16 : decode cX8_lay 16 = .ok (.iload_n 3, 1) := by decide +kernel
theorem dX8_lay_17 : decode cX8_lay 17 = .ok (.invokestatic 124, 3) := by decide +kernel
theorem dX8_lay_20 : decode cX8_lay 20 = .ok (.ifCond .ne 7, 3) := by decide +kernel
theorem dX8_lay_23 : decode cX8_lay 23 = .ok (.sipush (-1001), 3) := by decide +kernel
theorem dX8_lay_26 : decode cX8_lay 26 = .ok (.ireturn, 1) := by decide +kernel
theorem dX8_lay_27 : decode cX8_lay 27 = .ok (.aload_n 0, 1) := by decide +kernel
theorem dX8_lay_28 : decode cX8_lay 28 = .ok (.iload_n 1, 1) := by decide +kernel
theorem dX8_lay_29 : decode cX8_lay 29 = .ok (.iload_n 2, 1) := by decide +kernel
theorem dX8_lay_30 : decode cX8_lay 30 = .ok (.invokevirtual 169, 3) := by decide +kernel
theorem dX8_lay_33 : decode cX8_lay 33 = .ok (.ifCond .eq 16, 3) := by decide +kernel
theorem dX8_lay_36 : decode cX8_lay 36 = .ok (.aload_n 0, 1) := by decide +kernel
theorem dX8_lay_37 : decode cX8_lay 37 = .ok (.getfield 10, 3) := by decide +kernel
theorem dX8_lay_40 : decode cX8_lay 40 = .ok (.iload_n 1, 1) := by decide +kernel
theorem dX8_lay_41 : decode cX8_lay 41 = .ok (.iload_n 2, 1) := by decide +kernel
theorem dX8_lay_42 : decode cX8_lay 42 = .ok (.iload_n 3, 1) := by decide +kernel
theorem dX8_lay_43 : decode cX8_lay 43 = .ok (.invokevirtual 173, 3) := by decide +kernel
theorem dX8_lay_46 : decode cX8_lay 46 = .ok (.ifCond .ne 7, 3) := by decide +kernel
theorem dX8_lay_49 : decode cX8_lay 49 = .ok (.sipush (-1002), 3) := by decide +kernel
theorem dX8_lay_52 : decode cX8_lay 52 = .ok (.ireturn, 1) := by decide +kernel
theorem dX8_lay_53 : decode cX8_lay 53 = .ok (.aload_n 0, 1) := by decide +kernel
theorem dX8_lay_54 : decode cX8_lay 54 = .ok (.getfield 22, 3) := by decide +kernel
theorem dX8_lay_57 : decode cX8_lay 57 = .ok (.aload_n 0, 1) := by decide +kernel
theorem dX8_lay_58 : decode cX8_lay 58 = .ok (.getfield 10, 3) := by decide +kernel
theorem dX8_lay_61 : decode cX8_lay 61 = .ok (.invokevirtual 55, 3) := by decide +kernel
theorem dX8_lay_64 : decode cX8_lay 64 = .ok (.aload_n 0, 1) := by decide +kernel
theorem dX8_lay_65 : decode cX8_lay 65 = .ok (.getfield 10, 3) := by decide +kernel
theorem dX8_lay_68 : decode cX8_lay 68 = .ok (.getfield 59, 3) := by decide +kernel
theorem dX8_lay_71 : decode cX8_lay 71 = .ok (.iload_n 1, 1) := by decide +kernel
theorem dX8_lay_72 : decode cX8_lay 72 = .ok (.iload_n 2, 1) := by decide +kernel
theorem dX8_lay_73 : decode cX8_lay 73 = .ok (.iload_n 3, 1) := by decide +kernel
theorem dX8_lay_74 : decode cX8_lay 74 = .ok (.invokevirtual 176, 3) := by decide +kernel
theorem dX8_lay_77 : decode cX8_lay 77 = .ok (.aload_n 0, 1) := by decide +kernel
theorem dX8_lay_78 : decode cX8_lay 78 = .ok (.getfield 10, 3) := by decide +kernel
theorem dX8_lay_81 : decode cX8_lay 81 = .ok (.iload_n 1, 1) := by decide +kernel
theorem dX8_lay_82 : decode cX8_lay 82 = .ok (.iload_n 2, 1) := by decide +kernel
theorem dX8_lay_83 : decode cX8_lay 83 = .ok (.invokevirtual 179, 3) := by decide +kernel
theorem dX8_lay_86 : decode cX8_lay 86 = .ok (.ireturn, 1) := by decide +kernel
theorem dX8_force_0 : decode cX8_force 0 = .ok (.aload_n 0, 1) := by decide +kernel
theorem dX8_force_1 : decode cX8_force 1 = .ok (.iload_n 1, 1) := by decide +kernel
theorem dX8_force_2 : decode cX8_force 2 = .ok (.invokevirtual 104, 3) := by decide +kernel
theorem dX8_force_5 : decode cX8_force 5 = .ok (.ifCond .eq 18, 3) := by decide +kernel
theorem dX8_force_8 : decode cX8_force 8 = .ok (.aload_n 0, 1) := by decide +kernel
theorem dX8_force_9 : decode cX8_force 9 = .ok (.iload_n 2, 1) := by decide +kernel
theorem dX8_force_10 : decode cX8_force 10 = .ok (.invokevirtual 166, 3) := by decide +kernel
theorem dX8_force_13 : decode cX8_force 13 = .ok (.ifCond .eq 10, 3) := by decide +kernel
theorem dX8_force_16 : decode cX8_force 16 = .ok (.iload_n 3, 1) := by decide +kernel
theorem dX8_force_17 : decode cX8_force 17 = .ok (.invokestatic 124, 3) := by decide +kernel
theorem dX8_force_20 : decode cX8_force 20 = .ok (.ifCond .ne 7, 3) := by decide +kernel
theorem dX8_force_23 : decode cX8_force 23 = .ok (.sipush (-1001), 3) := by decide +kernel
theorem dX8_force_26 : decode cX8_force 26 = .ok (.ireturn, 1) := by decide +kernel
theorem dX8_force_27 : decode cX8_force 27 = .ok (.aload_n 0, 1) := by decide +kernel
theorem dX8_force_28 : decode cX8_force 28 = .ok (.iload_n 1, 1) := by decide +kernel
theorem dX8_force_29 : decode cX8_force 29 = .ok (.iload_n 2, 1) := by decide +kernel
theorem dX8_force_30 : decode cX8_force 30 = .ok (.invokevirtual 169, 3) := by decide +kernel
theorem dX8_force_33 : decode cX8_force 33 = .ok (.ifCond .ne 7, 3) := by decide +kernel
theorem dX8_force_36 : decode cX8_force 36 = .ok (.sipush (-1002), 3) := by decide +kernel
theorem dX8_force_39 : decode cX8_force 39 = .ok (.ireturn, 1) := by decide +kernel
theorem dX8_force_40 : decode cX8_force 40 = .ok (.aload_n 0, 1) := by decide +kernel
theorem dX8_force_41 : decode cX8_force 41 = .ok (.getfield 22, 3) := by decide +kernel
theorem dX8_force_44 : decode cX8_force 44 = .ok (.aload_n 0, 1) := by decide +kernel
theorem dX8_force_45 : decode cX8_force 45 = .ok (.getfield 10, 3) := by decide +kernel
theorem dX8_force_48 : decode cX8_force 48 = .ok (.invokevirtual 55, 3) := by decide +kernel
theorem dX8_force_51 : decode cX8_force 51 = .ok (.aload_n 0, 1) := by decide +kernel
theorem dX8_force_52 : decode cX8_force 52 = .ok (.getfield 10, 3) := by decide +kernel
theorem dX8_force_55 : decode cX8_force 55 = .ok (.getfield 59, 3) := by decide +kernel
theorem dX8_force_58 : decode cX8_force 58 = .ok (.iload_n 1, 1) := by decide +kernel
theorem dX8_force_59 : decode cX8_force 59 = .ok (.iload_n 2, 1) := by decide +kernel
theorem dX8_force_60 : decode cX8_force 60 = .ok (.iload_n 3, 1) := by decide +kernel
theorem dX8_force_61 : decode cX8_force 61 = .ok (.invokevirtual 176, 3) := by decide +kernel
theorem dX8_force_64 : decode cX8_force 64 = .ok (.aload_n 0, 1) := by decide +kernel
theorem dX8_force_65 : decode cX8_force 65 = .ok (.getfield 10, 3) := by decide +kernel
theorem dX8_force_68 : decode cX8_force 68 = .ok (.iload_n 1, 1) := by decide +kernel
theorem dX8_force_69 : decode cX8_force 69 = .ok (.invokevirtual 182, 3) := by decide +kernel
theorem dX8_force_72 : decode cX8_force 72 = .ok (.ireturn, 1) := by decide +kernel
theorem dX8_lift_0 : decode cX8_lift 0 = .ok (.aload_n 0, 1) := by decide +kernel
theorem dX8_lift_1 : decode cX8_lift 1 = .ok (.iload_n 1, 1) := by decide +kernel
theorem dX8_lift_2 : decode cX8_lift 2 = .ok (.invokevirtual 104, 3) := by decide +kernel
theorem dX8_lift_5 : decode cX8_lift 5 = .ok (.ifCond .ne 7, 3) := by decide +kernel
theorem dX8_lift_8 : decode cX8_lift 8 = .ok (.sipush (-1001), 3) := by decide +kernel
theorem dX8_lift_11 : decode cX8_lift 11 = .ok (.ireturn, 1) := by decide +kernel
theorem dX8_lift_12 : decode cX8_lift 12 = .ok (.aload_n 0, 1) := by decide +kernel
theorem dX8_lift_13 : decode cX8_lift 13 = .ok (.getfield 10, 3) := by decide +kernel
theorem dX8_lift_16 : decode cX8_lift 16 = .ok (.getfield 59, 3) := by decide +kernel
theorem dX8_lift_19 : decode cX8_lift 19 = .ok (.iload_n 1, 1) := by decide +kernel
theorem dX8_lift_20 : decode cX8_lift 20 = .ok (.invokevirtual 117, 3) := by decide +kernel
theorem dX8_lift_23 : decode cX8_lift 23 = .ok (.ifCond .ne 7, 3) := by decide +kernel
theorem dX8_lift_26 : decode cX8_lift 26 = .ok (.sipush (-1002), 3) := by decide +kernel
theorem dX8_lift_29 : decode cX8_lift 29 = .ok (.ireturn, 1) := by decide +kernel
theorem dX8_lift_30 : decode cX8_lift 30 = .ok (.aload_n 0, 1) := by decide +kernel
theorem dX8_lift_31 : decode cX8_lift 31 = .ok (.getfield 22, 3) := by decide +kernel
theorem dX8_lift_34 : decode cX8_lift 34 = .ok (.aload_n 0, 1) := by decide +kernel
theorem dX8_lift_35 : decode cX8_lift 35 = .ok (.getfield 10, 3) := by decide +kernel
theorem dX8_lift_38 : decode cX8_lift 38 = .ok (.invokevirtual 55, 3) := by decide +kernel
theorem dX8_lift_41 : decode cX8_lift 41 = .ok (.aload_n 0, 1) := by decide +kernel
theorem dX8_lift_42 : decode cX8_lift 42 = .ok (.getfield 10, 3) := by decide +kernel
theorem dX8_lift_45 : decode cX8_lift 45 = .ok (.getfield 59, 3) := by decide +kernel
theorem dX8_lift_48 : decode cX8_lift 48 = .ok (.iload_n 1, 1) := by decide +kernel
theorem dX8_lift_49 : decode cX8_lift 49 = .ok (.invokevirtual 185, 3) := by decide +kernel
theorem dX8_lift_52 : decode cX8_lift 52 = .ok (.istore_n 2, 1) := by decide +kernel
theorem dX8_lift_53 : decode cX8_lift 53 = .ok (.aload_n 0, 1) := by decide +kernel
theorem dX8_lift_54 : decode cX8_lift 54 = .ok (.getfield 10, 3) := by decide +kernel
theorem dX8_lift_57 : decode cX8_lift 57 = .ok (.getfield 59, 3) := by decide +kernel
theorem dX8_lift_60 : decode cX8_lift 60 = .ok (.iload_n 1, 1) := by decide +kernel
theorem dX8_lift_61 : decode cX8_lift 61 = .ok (.invokevirtual 188, 3) := by decide +kernel
theorem dX8_lift_64 : decode cX8_lift 64 = .ok (.iload_n 2, 1) := by decide +kernel
theorem dX8_lift_65 : decode cX8_lift 65 = .ok (.ireturn, 1) := by decide +kernel
theorem dX8_turn_0 : decode cX8_turn 0 = .ok (.aload_n 0, 1) := by decide +kernel
theorem dX8_turn_1 : decode cX8_turn 1 = .ok (.iload_n 1, 1) := by decide +kernel
theorem dX8_turn_2 : decode cX8_turn 2 = .ok (.invokevirtual 104, 3) := by decide +kernel
theorem dX8_turn_5 : decode cX8_turn 5 = .ok (.ifCond .eq 10, 3) := by decide +kernel
theorem dX8_turn_8 : decode cX8_turn 8 = .ok (.iload_n 2, 1) := by decide +kernel
theorem dX8_turn_9 : decode cX8_turn 9 = .ok (.invokestatic 124, 3) := by decide +kernel
theorem dX8_turn_12 : decode cX8_turn 12 = .ok (.ifCond .ne 7, 3) := by decide +kernel
theorem dX8_turn_15 : decode cX8_turn 15 = .ok (.sipush (-1001), 3) := by decide +kernel
theorem dX8_turn_18 : decode cX8_turn 18 = .ok (.ireturn, 1) := by decide +kernel
theorem dX8_turn_19 : decode cX8_turn 19 = .ok (.aload_n 0, 1) := by decide +kernel
theorem dX8_turn_20 : decode cX8_turn 20 = .ok (.getfield 10, 3) := by decide +kernel
theorem dX8_turn_23 : decode cX8_turn 23 = .ok (.getfield 59, 3) := by decide +kernel
theorem dX8_turn_26 : decode cX8_turn 26 = .ok (.iload_n 1, 1) := by decide +kernel
theorem dX8_turn_27 : decode cX8_turn 27 = .ok (.invokevirtual 117, 3) := by decide +kernel
theorem dX8_turn_30 : decode cX8_turn 30 = .ok (.ifCond .ne 7, 3) := by decide +kernel
theorem dX8_turn_33 : decode cX8_turn 33 = .ok (.sipush (-1002), 3) := by decide +kernel
theorem dX8_turn_36 : decode cX8_turn 36 = .ok (.ireturn, 1) := by decide +kernel
theorem dX8_turn_37 : decode cX8_turn 37 = .ok (.aload_n 0, 1) := by decide +kernel
theorem dX8_turn_38 : decode cX8_turn 38 = .ok (.getfield 22, 3) := by decide +kernel
theorem dX8_turn_41 : decode cX8_turn 41 = .ok (.aload_n 0, 1) := by decide +kernel
theorem dX8_turn_42 : decode cX8_turn 42 = .ok (.getfield 10, 3) := by decide +kernel
theorem dX8_turn_45 : decode cX8_turn 45 = .ok (.invokevirtual 55, 3) := by decide +kernel
theorem dX8_turn_48 : decode cX8_turn 48 = .ok (.aload_n 0, 1) := by decide +kernel
theorem dX8_turn_49 : decode cX8_turn 49 = .ok (.getfield 10, 3) := by decide +kernel
theorem dX8_turn_52 : decode cX8_turn 52 = .ok (.getfield 59, 3) := by decide +kernel
theorem dX8_turn_55 : decode cX8_turn 55 = .ok (.iload_n 1, 1) := by decide +kernel
theorem dX8_turn_56 : decode cX8_turn 56 = .ok (.aload_n 0, 1) := by decide +kernel
theorem dX8_turn_57 : decode cX8_turn 57 = .ok (.getfield 10, 3) := by decide +kernel
theorem dX8_turn_60 : decode cX8_turn 60 = .ok (.getfield 59, 3) := by decide +kernel
theorem dX8_turn_63 : decode cX8_turn 63 = .ok (.iload_n 1, 1) := by decide +kernel
theorem dX8_turn_64 : decode cX8_turn 64 = .ok (.invokevirtual 185, 3) := by decide +kernel
theorem dX8_turn_67 : decode cX8_turn 67 = .ok (.iload_n 2, 1) := by decide +kernel
theorem dX8_turn_68 : decode cX8_turn 68 = .ok (.invokevirtual 176, 3) := by decide +kernel
theorem dX8_turn_71 : decode cX8_turn 71 = .ok (.aload_n 0, 1) := by decide +kernel
theorem dX8_turn_72 : decode cX8_turn 72 = .ok (.getfield 10, 3) := by decide +kernel
theorem dX8_turn_75 : decode cX8_turn 75 = .ok (.iload_n 1, 1) := by decide +kernel
theorem dX8_turn_76 : decode cX8_turn 76 = .ok (.invokevirtual 182, 3) := by decide +kernel
theorem dX8_turn_79 : decode cX8_turn 79 = .ok (.ireturn, 1) := by decide +kernel
theorem dX8_at_0 : decode cX8_at 0 = .ok (.aload_n 0, 1) := by decide +kernel
theorem dX8_at_1 : decode cX8_at 1 = .ok (.iload_n 1, 1) := by decide +kernel
theorem dX8_at_2 : decode cX8_at 2 = .ok (.invokevirtual 166, 3) := by decide +kernel
theorem dX8_at_5 : decode cX8_at 5 = .ok (.ifCond .ne 7, 3) := by decide +kernel
theorem dX8_at_8 : decode cX8_at 8 = .ok (.sipush (-1001), 3) := by decide +kernel
theorem dX8_at_11 : decode cX8_at 11 = .ok (.ireturn, 1) := by decide +kernel
theorem dX8_at_12 : decode cX8_at 12 = .ok (.aload_n 0, 1) := by decide +kernel
theorem dX8_at_13 : decode cX8_at 13 = .ok (.getfield 10, 3) := by decide +kernel
theorem dX8_at_16 : decode cX8_at 16 = .ok (.getfield 59, 3) := by decide +kernel
theorem dX8_at_19 : decode cX8_at 19 = .ok (.iload_n 1, 1) := by decide +kernel
theorem dX8_at_20 : decode cX8_at 20 = .ok (.invokevirtual 191, 3) := by decide +kernel
theorem dX8_at_23 : decode cX8_at 23 = .ok (.istore_n 2, 1) := by decide +kernel
theorem dX8_at_24 : decode cX8_at 24 = .ok (.iload_n 2, 1) := by decide +kernel
theorem dX8_at_25 : decode cX8_at 25 = .ok (.iconst (-1), 1) := by decide +kernel
theorem dX8_at_26 : decode cX8_at 26 = .ok (.if_icmp .ne 9, 3) := by decide +kernel
theorem dX8_at_29 : decode cX8_at 29 = .ok (.sipush (-1004), 3) := by decide +kernel
theorem dX8_at_32 : decode cX8_at 32 = .ok (.goto 4, 3) := by decide +kernel
theorem dX8_at_35 : decode cX8_at 35 = .ok (.iload_n 2, 1) := by decide +kernel
theorem dX8_at_36 : decode cX8_at 36 = .ok (.ireturn, 1) := by decide +kernel
theorem dX8_reason_0 : decode cX8_reason 0 = .ok (.aload_n 0, 1) := by decide +kernel
theorem dX8_reason_1 : decode cX8_reason 1 = .ok (.iload_n 1, 1) := by decide +kernel
theorem dX8_reason_2 : decode cX8_reason 2 = .ok (.invokevirtual 166, 3) := by decide +kernel
theorem dX8_reason_5 : decode cX8_reason 5 = .ok (.ifCond .eq 10, 3) := by decide +kernel
theorem dX8_reason_8 : decode cX8_reason 8 = .ok (.iload_n 2, 1) := by decide +kernel
theorem dX8_reason_9 : decode cX8_reason 9 = .ok (.invokestatic 127, 3) := by decide +kernel
theorem dX8_reason_12 : decode cX8_reason 12 = .ok (.ifCond .ne 7, 3) := by decide +kernel
theorem dX8_reason_15 : decode cX8_reason 15 = .ok (.sipush (-1001), 3) := by decide +kernel
theorem dX8_reason_18 : decode cX8_reason 18 = .ok (.ireturn, 1) := by decide +kernel
theorem dX8_reason_19 : decode cX8_reason 19 = .ok (.aload_n 0, 1) := by decide +kernel
theorem dX8_reason_20 : decode cX8_reason 20 = .ok (.getfield 10, 3) := by decide +kernel
theorem dX8_reason_23 : decode cX8_reason 23 = .ok (.getfield 59, 3) := by decide +kernel
theorem dX8_reason_26 : decode cX8_reason 26 = .ok (.iload_n 1, 1) := by decide +kernel
theorem dX8_reason_27 : decode cX8_reason 27 = .ok (.invokevirtual 191, 3) := by decide +kernel
theorem dX8_reason_30 : decode cX8_reason 30 = .ok (.istore_n 3, 1) := by decide +kernel
theorem dX8_reason_31 : decode cX8_reason 31 = .ok (.iload_n 3, 1) := by decide +kernel
theorem dX8_reason_32 : decode cX8_reason 32 = .ok (.iconst (-1), 1) := by decide +kernel
theorem dX8_reason_33 : decode cX8_reason 33 = .ok (.if_icmp .ne 7, 3) := by decide +kernel
theorem dX8_reason_36 : decode cX8_reason 36 = .ok (.sipush (-1004), 3) := by decide +kernel
theorem dX8_reason_39 : decode cX8_reason 39 = .ok (.ireturn, 1) := by decide +kernel
theorem dX8_reason_40 : decode cX8_reason 40 = .ok (.aload_n 0, 1) := by decide +kernel
theorem dX8_reason_41 : decode cX8_reason 41 = .ok (.getfield 10, 3) := by decide +kernel
theorem dX8_reason_44 : decode cX8_reason 44 = .ok (.iload_n 3, 1) := by decide +kernel
theorem dX8_reason_45 : decode cX8_reason 45 = .ok (.iload_n 1, 1) := by decide +kernel
theorem dX8_reason_46 : decode cX8_reason 46 = .ok (.aload_n 0, 1) := by decide +kernel
theorem dX8_reason_47 : decode cX8_reason 47 = .ok (.getfield 10, 3) := by decide +kernel
theorem dX8_reason_50 : decode cX8_reason 50 = .ok (.getfield 59, 3) := by decide +kernel
theorem dX8_reason_53 : decode cX8_reason 53 = .ok (.iload_n 3, 1) := by decide +kernel
theorem dX8_reason_54 : decode cX8_reason 54 = .ok (.invokevirtual 114, 3) := by decide +kernel
theorem dX8_reason_57 : decode cX8_reason 57 = .ok (.iload_n 2, 1) := by decide +kernel
theorem dX8_reason_58 : decode cX8_reason 58 = .ok (.invokevirtual 194, 3) := by decide +kernel
theorem dX8_reason_61 : decode cX8_reason 61 = .ok (.istore 4, 2) := by decide +kernel
theorem dX8_reason_63 : decode cX8_reason 63 = .ok (.iload 4, 2) := by decide +kernel
theorem dX8_reason_65 : decode cX8_reason 65 = .ok (.iconst (-1), 1) := by decide +kernel
theorem dX8_reason_66 : decode cX8_reason 66 = .ok (.if_icmp .ne 9, 3) := by decide +kernel
theorem dX8_reason_69 : decode cX8_reason 69 = .ok (.sipush (-1004), 3) := by decide +kernel
theorem dX8_reason_72 : decode cX8_reason 72 = .ok (.goto 5, 3) := by decide +kernel
theorem dX8_reason_75 : decode cX8_reason 75 = .ok (.iload 4, 2) := by decide +kernel
theorem dX8_reason_77 : decode cX8_reason 77 = .ok (.ireturn, 1) := by decide +kernel
theorem dX8_ways_0 : decode cX8_ways 0 = .ok (.aload_n 0, 1) := by decide +kernel
theorem dX8_ways_1 : decode cX8_ways 1 = .ok (.iload_n 1, 1) := by decide +kernel
theorem dX8_ways_2 : decode cX8_ways 2 = .ok (.invokevirtual 104, 3) := by decide +kernel
theorem dX8_ways_5 : decode cX8_ways 5 = .ok (.ifCond .eq 11, 3) := by decide +kernel
theorem dX8_ways_8 : decode cX8_ways 8 = .ok (.aload_n 0, 1) := by decide +kernel
theorem dX8_ways_9 : decode cX8_ways 9 = .ok (.iload_n 2, 1) := by decide +kernel
theorem dX8_ways_10 : decode cX8_ways 10 = .ok (.invokevirtual 166, 3) := by decide +kernel
theorem dX8_ways_13 : decode cX8_ways 13 = .ok (.ifCond .ne 7, 3) := by decide +kernel
theorem dX8_ways_16 : decode cX8_ways 16 = .ok (.sipush (-1001), 3) := by decide +kernel
theorem dX8_ways_19 : decode cX8_ways 19 = .ok (.ireturn, 1) := by decide +kernel
theorem dX8_ways_20 : decode cX8_ways 20 = .ok (.aload_n 0, 1) := by decide +kernel
theorem dX8_ways_21 : decode cX8_ways 21 = .ok (.getfield 10, 3) := by decide +kernel
theorem dX8_ways_24 : decode cX8_ways 24 = .ok (.getfield 59, 3) := by decide +kernel
theorem dX8_ways_27 : decode cX8_ways 27 = .ok (.iload_n 2, 1) := by decide +kernel
theorem dX8_ways_28 : decode cX8_ways 28 = .ok (.invokevirtual 191, 3) := by decide +kernel
theorem dX8_ways_31 : decode cX8_ways 31 = .ok (.istore_n 3, 1) := by decide +kernel
theorem dX8_ways_32 : decode cX8_ways 32 = .ok (.iload_n 3, 1) := by decide +kernel
theorem dX8_ways_33 : decode cX8_ways 33 = .ok (.iconst (-1), 1) := by decide +kernel
theorem dX8_ways_34 : decode cX8_ways 34 = .ok (.if_icmp .eq 12, 3) := by decide +kernel
theorem dX8_ways_37 : decode cX8_ways 37 = .ok (.iload_n 3, 1) := by decide +kernel
theorem dX8_ways_38 : decode cX8_ways 38 = .ok (.iload_n 1, 1) := by decide +kernel
theorem dX8_ways_39 : decode cX8_ways 39 = .ok (.if_icmp .eq 7, 3) := by decide +kernel
theorem dX8_ways_42 : decode cX8_ways 42 = .ok (.sipush (-1002), 3) := by decide +kernel
theorem dX8_ways_45 : decode cX8_ways 45 = .ok (.ireturn, 1) := by decide +kernel
theorem dX8_ways_46 : decode cX8_ways 46 = .ok (.aload_n 0, 1) := by decide +kernel
theorem dX8_ways_47 : decode cX8_ways 47 = .ok (.getfield 10, 3) := by decide +kernel
theorem dX8_ways_50 : decode cX8_ways 50 = .ok (.iload_n 1, 1) := by decide +kernel
theorem dX8_ways_51 : decode cX8_ways 51 = .ok (.iload_n 2, 1) := by decide +kernel
theorem dX8_ways_52 : decode cX8_ways 52 = .ok (.invokevirtual 198, 3) := by decide +kernel
theorem dX8_ways_55 : decode cX8_ways 55 = .ok (.ireturn, 1) := by decide +kernel
theorem dX8_bestFor_0 : decode cX8_bestFor 0 = .ok (.aload_n 0, 1) := by decide +kernel
theorem dX8_bestFor_1 : decode cX8_bestFor 1 = .ok (.iload_n 1, 1) := by decide +kernel
theorem dX8_bestFor_2 : decode cX8_bestFor 2 = .ok (.invokevirtual 104, 3) := by decide +kernel
theorem dX8_bestFor_5 : decode cX8_bestFor 5 = .ok (.ifCond .ne 7, 3) := by decide +kernel
theorem dX8_bestFor_8 : decode cX8_bestFor 8 = .ok (.sipush (-1001), 3) := by decide +kernel
theorem dX8_bestFor_11 : decode cX8_bestFor 11 = .ok (.ireturn, 1) := by decide +kernel
theorem dX8_bestFor_12 : decode cX8_bestFor 12 = .ok (.aload_n 0, 1) := by decide +kernel
theorem dX8_bestFor_13 : decode cX8_bestFor 13 = .ok (.getfield 10, 3) := by decide +kernel
theorem dX8_bestFor_16 : decode cX8_bestFor 16 = .ok (.getfield 59, 3) := by decide +kernel
theorem dX8_bestFor_19 : decode cX8_bestFor 19 = .ok (.iload_n 1, 1) := by decide +kernel
theorem dX8_bestFor_20 : decode cX8_bestFor 20 = .ok (.invokevirtual 117, 3) := by decide +kernel
theorem dX8_bestFor_23 : decode cX8_bestFor 23 = .ok (.ifCond .eq 7, 3) := by decide +kernel
theorem dX8_bestFor_26 : decode cX8_bestFor 26 = .ok (.sipush (-1002), 3) := by decide +kernel
theorem dX8_bestFor_29 : decode cX8_bestFor 29 = .ok (.ireturn, 1) := by decide +kernel
theorem dX8_bestFor_30 : decode cX8_bestFor 30 = .ok (.aload_n 0, 1) := by decide +kernel
theorem dX8_bestFor_31 : decode cX8_bestFor 31 = .ok (.getfield 10, 3) := by decide +kernel
theorem dX8_bestFor_34 : decode cX8_bestFor 34 = .ok (.iload_n 1, 1) := by decide +kernel
theorem dX8_bestFor_35 : decode cX8_bestFor 35 = .ok (.invokevirtual 201, 3) := by decide +kernel
theorem dX8_bestFor_38 : decode cX8_bestFor 38 = .ok (.istore_n 2, 1) := by decide +kernel
theorem dX8_bestFor_39 : decode cX8_bestFor 39 = .ok (.iload_n 2, 1) := by decide +kernel
theorem dX8_bestFor_40 : decode cX8_bestFor 40 = .ok (.iconst (-1), 1) := by decide +kernel
theorem dX8_bestFor_41 : decode cX8_bestFor 41 = .ok (.if_icmp .ne 9, 3) := by decide +kernel
theorem dX8_bestFor_44 : decode cX8_bestFor 44 = .ok (.sipush (-1004), 3) := by decide +kernel
theorem dX8_bestFor_47 : decode cX8_bestFor 47 = .ok (.goto 4, 3) := by decide +kernel
theorem dX8_bestFor_50 : decode cX8_bestFor 50 = .ok (.iload_n 2, 1) := by decide +kernel
theorem dX8_bestFor_51 : decode cX8_bestFor 51 = .ok (.ireturn, 1) := by decide +kernel
theorem dX8_fill_0 : decode cX8_fill 0 = .ok (.aload_n 0, 1) := by decide +kernel
theorem dX8_fill_1 : decode cX8_fill 1 = .ok (.getfield 22, 3) := by decide +kernel
theorem dX8_fill_4 : decode cX8_fill 4 = .ok (.aload_n 0, 1) := by decide +kernel
theorem dX8_fill_5 : decode cX8_fill 5 = .ok (.getfield 10, 3) := by decide +kernel
theorem dX8_fill_8 : decode cX8_fill 8 = .ok (.invokevirtual 55, 3) := by decide +kernel
theorem dX8_fill_11 : decode cX8_fill 11 = .ok (.iconst 0, 1) := by decide +kernel
theorem dX8_fill_12 : decode cX8_fill 12 = .ok (.istore_n 1, 1) := by decide +kernel
theorem dX8_fill_13 : decode cX8_fill 13 = .ok (.iload_n 1, 1) := by decide +kernel
theorem dX8_fill_14 : decode cX8_fill 14 = .ok (.bipush 12, 2) := by decide +kernel
theorem dX8_fill_16 : decode cX8_fill 16 = .ok (.if_icmp .ge 19, 3) := by decide +kernel
theorem dX8_fill_19 : decode cX8_fill 19 = .ok (.aload_n 0, 1) := by decide +kernel
theorem dX8_fill_20 : decode cX8_fill 20 = .ok (.getfield 10, 3) := by decide +kernel
theorem dX8_fill_23 : decode cX8_fill 23 = .ok (.invokevirtual 204, 3) := by decide +kernel
theorem dX8_fill_26 : decode cX8_fill 26 = .ok (.ifCond .eq 9, 3) := by decide +kernel
theorem dX8_fill_29 : decode cX8_fill 29 = .ok (.iinc 1 1, 3) := by decide +kernel
theorem dX8_fill_32 : decode cX8_fill 32 = .ok (.goto (-19), 3) := by decide +kernel
theorem dX8_fill_35 : decode cX8_fill 35 = .ok (.iload_n 1, 1) := by decide +kernel
theorem dX8_fill_36 : decode cX8_fill 36 = .ok (.ireturn, 1) := by decide +kernel
theorem dX8_member_0 : decode cX8_member 0 = .ok (.aload_n 0, 1) := by decide +kernel
theorem dX8_member_1 : decode cX8_member 1 = .ok (.getfield 29, 3) := by decide +kernel
theorem dX8_member_4 : decode cX8_member 4 = .ok (.aload_n 0, 1) := by decide +kernel
theorem dX8_member_5 : decode cX8_member 5 = .ok (.getfield 10, 3) := by decide +kernel
theorem dX8_member_8 : decode cX8_member 8 = .ok (.invokevirtual 147, 3) := by decide +kernel
theorem dX8_member_11 : decode cX8_member 11 = .ok (.iload_n 1, 1) := by decide +kernel
theorem dX8_member_12 : decode cX8_member 12 = .ok (.iconst 0, 1) := by decide +kernel
theorem dX8_member_13 : decode cX8_member 13 = .ok (.aload_n 0, 1) := by decide +kernel
theorem dX8_member_14 : decode cX8_member 14 = .ok (.getfield 29, 3) := by decide +kernel
theorem dX8_member_17 : decode cX8_member 17 = .ok (.invokevirtual 150, 3) := by decide +kernel
theorem dX8_member_20 : decode cX8_member 20 = .ok (.iconst 1, 1) := by decide +kernel
theorem dX8_member_21 : decode cX8_member 21 = .ok (.isub, 1) := by decide +kernel
theorem dX8_member_22 : decode cX8_member 22 = .ok (.invokestatic 47, 3) := by decide +kernel
theorem dX8_member_25 : decode cX8_member 25 = .ok (.ifCond .eq 7, 3) := by decide +kernel
theorem dX8_member_28 : decode cX8_member 28 = .ok (.iload_n 2, 1) := by decide +kernel
theorem dX8_member_29 : decode cX8_member 29 = .ok (.ifCond .ge 7, 3) := by decide +kernel
theorem dX8_member_32 : decode cX8_member 32 = .ok (.sipush (-1001), 3) := by decide +kernel
theorem dX8_member_35 : decode cX8_member 35 = .ok (.ireturn, 1) := by decide +kernel
theorem dX8_member_36 : decode cX8_member 36 = .ok (.aload_n 0, 1) := by decide +kernel
theorem dX8_member_37 : decode cX8_member 37 = .ok (.getfield 29, 3) := by decide +kernel
theorem dX8_member_40 : decode cX8_member 40 = .ok (.iload_n 1, 1) := by decide +kernel
theorem dX8_member_41 : decode cX8_member 41 = .ok (.iload_n 2, 1) := by decide +kernel
theorem dX8_member_42 : decode cX8_member 42 = .ok (.invokevirtual 207, 3) := by decide +kernel
theorem dX8_member_45 : decode cX8_member 45 = .ok (.istore_n 3, 1) := by decide +kernel
theorem dX8_member_46 : decode cX8_member 46 = .ok (.iload_n 3, 1) := by decide +kernel
theorem dX8_member_47 : decode cX8_member 47 = .ok (.iconst (-1), 1) := by decide +kernel
theorem dX8_member_48 : decode cX8_member 48 = .ok (.if_icmp .ne 9, 3) := by decide +kernel
theorem dX8_member_51 : decode cX8_member 51 = .ok (.sipush (-1004), 3) := by decide +kernel
theorem dX8_member_54 : decode cX8_member 54 = .ok (.goto 4, 3) := by decide +kernel
theorem dX8_member_57 : decode cX8_member 57 = .ok (.iload_n 3, 1) := by decide +kernel
theorem dX8_member_58 : decode cX8_member 58 = .ok (.ireturn, 1) := by decide +kernel
theorem dX8_canFill_0 : decode cX8_canFill 0 = .ok (.aload_n 0, 1) := by decide +kernel
theorem dX8_canFill_1 : decode cX8_canFill 1 = .ok (.getfield 10, 3) := by decide +kernel
theorem dX8_canFill_4 : decode cX8_canFill 4 = .ok (.getfield 59, 3) := by decide +kernel
theorem dX8_canFill_7 : decode cX8_canFill 7 = .ok (.invokevirtual 160, 3) := by decide +kernel
theorem dX8_canFill_10 : decode cX8_canFill 10 = .ok (.istore_n 1, 1) := by decide +kernel
theorem dX8_canFill_11 : decode cX8_canFill 11 = .ok (.aload_n 0, 1) := by decide +kernel
theorem dX8_canFill_12 : decode cX8_canFill 12 = .ok (.getfield 10, 3) := by decide +kernel
theorem dX8_canFill_15 : decode cX8_canFill 15 = .ok (.getfield 73, 3) := by decide +kernel
theorem dX8_canFill_18 : decode cX8_canFill 18 = .ok (.invokevirtual 77, 3) := by decide +kernel
theorem dX8_canFill_21 : decode cX8_canFill 21 = .ok (.iload_n 1, 1) := by decide +kernel
theorem dX8_canFill_22 : decode cX8_canFill 22 = .ok (.if_icmp .ne 9, 3) := by decide +kernel
theorem dX8_canFill_25 : decode cX8_canFill 25 = .ok (.iload_n 1, 1) := by decide +kernel
theorem dX8_canFill_26 : decode cX8_canFill 26 = .ok (.bipush 6, 2) := by decide +kernel
theorem dX8_canFill_28 : decode cX8_canFill 28 = .ok (.if_icmp .le 7, 3) := by decide +kernel
theorem dX8_canFill_31 : decode cX8_canFill 31 = .ok (.sipush (-1002), 3) := by decide +kernel
theorem dX8_canFill_34 : decode cX8_canFill 34 = .ok (.ireturn, 1) := by decide +kernel
theorem dX8_canFill_35 : decode cX8_canFill 35 = .ok (.aload_n 0, 1) := by decide +kernel
theorem dX8_canFill_36 : decode cX8_canFill 36 = .ok (.getfield 16, 3) := by decide +kernel
theorem dX8_canFill_39 : decode cX8_canFill 39 = .ok (.aload_n 0, 1) := by decide +kernel
theorem dX8_canFill_40 : decode cX8_canFill 40 = .ok (.getfield 10, 3) := by decide +kernel
theorem dX8_canFill_43 : decode cX8_canFill 43 = .ok (.invokevirtual 210, 3) := by decide +kernel
theorem dX8_canFill_46 : decode cX8_canFill 46 = .ok (.aload_n 0, 1) := by decide +kernel
theorem dX8_canFill_47 : decode cX8_canFill 47 = .ok (.getfield 16, 3) := by decide +kernel
theorem dX8_canFill_50 : decode cX8_canFill 50 = .ok (.getfield 59, 3) := by decide +kernel
theorem dX8_canFill_53 : decode cX8_canFill 53 = .ok (.aload_n 0, 1) := by decide +kernel
theorem dX8_canFill_54 : decode cX8_canFill 54 = .ok (.getfield 10, 3) := by decide +kernel
theorem dX8_canFill_57 : decode cX8_canFill 57 = .ok (.getfield 59, 3) := by decide +kernel
theorem dX8_canFill_60 : decode cX8_canFill 60 = .ok (.invokevirtual 141, 3) := by decide +kernel
theorem dX8_canFill_63 : decode cX8_canFill 63 = .ok (.aload_n 0, 1) := by decide +kernel
theorem dX8_canFill_64 : decode cX8_canFill 64 = .ok (.getfield 10, 3) := by decide +kernel
theorem dX8_canFill_67 : decode cX8_canFill 67 = .ok (.getfield 59, 3) := by decide +kernel
theorem dX8_canFill_70 : decode cX8_canFill 70 = .ok (.invokevirtual 144, 3) := by decide +kernel
theorem dX8_canFill_73 : decode cX8_canFill 73 = .ok (.invokevirtual 63, 3) := by decide +kernel
theorem dX8_canFill_76 : decode cX8_canFill 76 = .ok (.aload_n 0, 1) := by decide +kernel
theorem dX8_canFill_77 : decode cX8_canFill 77 = .ok (.getfield 16, 3) := by decide +kernel
theorem dX8_canFill_80 : decode cX8_canFill 80 = .ok (.iconst 0, 1) := by decide +kernel
theorem dX8_canFill_81 : decode cX8_canFill 81 = .ok (.invokestatic 213, 3) := by decide +kernel
theorem dX8_canFill_84 : decode cX8_canFill 84 = .ok (.ifCond .eq 7, 3) := by decide +kernel
theorem dX8_canFill_87 : decode cX8_canFill 87 = .ok (.iconst 1, 1) := by decide +kernel
theorem dX8_canFill_88 : decode cX8_canFill 88 = .ok (.goto 4, 3) := by decide +kernel
theorem dX8_canFill_91 : decode cX8_canFill 91 = .ok (.iconst 0, 1) := by decide +kernel
theorem dX8_canFill_92 : decode cX8_canFill 92 = .ok (.ireturn, 1) := by decide +kernel
theorem dX8_type_0 : decode cX8_type 0 = .ok (.iload_n 1, 1) := by decide +kernel
theorem dX8_type_1 : decode cX8_type 1 = .ok (.bipush 32, 2) := by decide +kernel
theorem dX8_type_3 : decode cX8_type 3 = .ok (.bipush 126, 2) := by decide +kernel
theorem dX8_type_5 : decode cX8_type 5 = .ok (.invokestatic 47, 3) := by decide +kernel
theorem dX8_type_8 : decode cX8_type 8 = .ok (.ifCond .ne 7, 3) := by decide +kernel
theorem dX8_type_11 : decode cX8_type 11 = .ok (.sipush (-1001), 3) := by decide +kernel
theorem dX8_type_14 : decode cX8_type 14 = .ok (.ireturn, 1) := by decide +kernel
theorem dX8_type_15 : decode cX8_type 15 = .ok (.aload_n 0, 1) := by decide +kernel
theorem dX8_type_16 : decode cX8_type 16 = .ok (.getfield 36, 3) := by decide +kernel
theorem dX8_type_19 : decode cX8_type 19 = .ok (.invokevirtual 163, 3) := by decide +kernel
theorem dX8_type_22 : decode cX8_type 22 = .ok (.bipush 60, 2) := by decide +kernel
theorem dX8_type_24 : decode cX8_type 24 = .ok (.if_icmp .lt 7, 3) := by decide +kernel
theorem dX8_type_27 : decode cX8_type 27 = .ok (.sipush (-1003), 3) := by decide +kernel
theorem dX8_type_30 : decode cX8_type 30 = .ok (.ireturn, 1) := by decide +kernel
theorem dX8_type_31 : decode cX8_type 31 = .ok (.aload_n 0, 1) := by decide +kernel
theorem dX8_type_32 : decode cX8_type 32 = .ok (.getfield 36, 3) := by decide +kernel
theorem dX8_type_35 : decode cX8_type 35 = .ok (.iload_n 1, 1) := by decide +kernel
theorem dX8_type_36 : decode cX8_type 36 = .ok (.invokevirtual 217, 3) := by decide +kernel
theorem dX8_type_39 : decode cX8_type 39 = .ok (.aload_n 0, 1) := by decide +kernel
theorem dX8_type_40 : decode cX8_type 40 = .ok (.getfield 36, 3) := by decide +kernel
theorem dX8_type_43 : decode cX8_type 43 = .ok (.invokevirtual 163, 3) := by decide +kernel
theorem dX8_type_46 : decode cX8_type 46 = .ok (.ireturn, 1) := by decide +kernel
theorem dX8_clearText_0 : decode cX8_clearText 0 = .ok (.aload_n 0, 1) := by decide +kernel
theorem dX8_clearText_1 : decode cX8_clearText 1 = .ok (.getfield 36, 3) := by decide +kernel
theorem dX8_clearText_4 : decode cX8_clearText 4 = .ok (.invokevirtual 163, 3) := by decide +kernel
theorem dX8_clearText_7 : decode cX8_clearText 7 = .ok (.istore_n 1, 1) := by decide +kernel
theorem dX8_clearText_8 : decode cX8_clearText 8 = .ok (.aload_n 0, 1) := by decide +kernel
theorem dX8_clearText_9 : decode cX8_clearText 9 = .ok (.getfield 36, 3) := by decide +kernel
theorem dX8_clearText_12 : decode cX8_clearText 12 = .ok (.invokevirtual 219, 3) := by decide +kernel
theorem dX8_clearText_15 : decode cX8_clearText 15 = .ok (.iload_n 1, 1) := by decide +kernel
theorem dX8_clearText_16 : decode cX8_clearText 16 = .ok (.ireturn, 1) := by decide +kernel
theorem dX8_fault_0 : decode cX8_fault 0 = .ok (.aload_n 0, 1) := by decide +kernel
theorem dX8_fault_1 : decode cX8_fault 1 = .ok (.getfield 36, 3) := by decide +kernel
theorem dX8_fault_4 : decode cX8_fault 4 = .ok (.invokevirtual 94, 3) := by decide +kernel
theorem dX8_fault_7 : decode cX8_fault 7 = .ok (.aload_n 0, 1) := by decide +kernel
theorem dX8_fault_8 : decode cX8_fault 8 = .ok (.getfield 36, 3) := by decide +kernel
theorem dX8_fault_11 : decode cX8_fault 11 = .ok (.invokevirtual 97, 3) := by decide +kernel
theorem dX8_fault_14 : decode cX8_fault 14 = .ok (.ifCond .eq 9, 3) := by decide +kernel
theorem dX8_fault_17 : decode cX8_fault 17 = .ok (.sipush (-1004), 3) := by decide +kernel
theorem dX8_fault_20 : decode cX8_fault 20 = .ok (.goto 10, 3) := by decide +kernel
theorem dX8_fault_23 : decode cX8_fault 23 = .ok (.aload_n 0, 1) := by decide +kernel
theorem dX8_fault_24 : decode cX8_fault 24 = .ok (.getfield 36, 3) := by decide +kernel
theorem dX8_fault_27 : decode cX8_fault 27 = .ok (.invokevirtual 221, 3) := by decide +kernel
theorem dX8_fault_30 : decode cX8_fault 30 = .ok (.ireturn, 1) := by decide +kernel
theorem dX8_append_0 : decode cX8_append 0 = .ok (.aload_n 0, 1) := by decide +kernel
theorem dX8_append_1 : decode cX8_append 1 = .ok (.getfield 22, 3) := by decide +kernel
theorem dX8_append_4 : decode cX8_append 4 = .ok (.aload_n 0, 1) := by decide +kernel
theorem dX8_append_5 : decode cX8_append 5 = .ok (.getfield 10, 3) := by decide +kernel
theorem dX8_append_8 : decode cX8_append 8 = .ok (.invokevirtual 55, 3) := by decide +kernel
theorem dX8_append_11 : decode cX8_append 11 = .ok (.aload_n 0, 1) := by decide +kernel
theorem dX8_append_12 : decode cX8_append 12 = .ok (.getfield 10, 3) := by decide +kernel
theorem dX8_append_15 : decode cX8_append 15 = .ok (.getfield 73, 3) := by decide +kernel
theorem dX8_append_18 : decode cX8_append 18 = .ok (.aload_n 1, 1) := by decide +kernel
theorem dX8_append_19 : decode cX8_append 19 = .ok (.invokevirtual 224, 3) := by decide +kernel
theorem dX8_append_22 : decode cX8_append 22 = .ok (.aload_n 0, 1) := by decide +kernel
theorem dX8_append_23 : decode cX8_append 23 = .ok (.getfield 10, 3) := by decide +kernel
theorem dX8_append_26 : decode cX8_append 26 = .ok (.getfield 73, 3) := by decide +kernel
theorem dX8_append_29 : decode cX8_append 29 = .ok (.invokevirtual 77, 3) := by decide +kernel
theorem dX8_append_32 : decode cX8_append 32 = .ok (.iconst 1, 1) := by decide +kernel
theorem dX8_append_33 : decode cX8_append 33 = .ok (.isub, 1) := by decide +kernel
theorem dX8_append_34 : decode cX8_append 34 = .ok (.ireturn, 1) := by decide +kernel
theorem dX8_propertyOnPage_0 : decode cX8_propertyOnPage 0 = .ok (.iload_n 2, 1) := by decide +kernel
theorem dX8_propertyOnPage_1 : decode cX8_propertyOnPage 1 = .ok (.tableswitch 68 2 4 #[27, 39, 59], 27) := by decide +kernel
theorem dX8_propertyOnPage_28 : decode cX8_propertyOnPage 28 = .ok (.aload_n 0, 1) := by decide +kernel
theorem dX8_propertyOnPage_29 : decode cX8_propertyOnPage 29 = .ok (.getfield 10, 3) := by decide +kernel
theorem dX8_propertyOnPage_32 : decode cX8_propertyOnPage 32 = .ok (.getfield 59, 3) := by decide +kernel
theorem dX8_propertyOnPage_35 : decode cX8_propertyOnPage 35 = .ok (.iload_n 1, 1) := by decide +kernel
theorem dX8_propertyOnPage_36 : decode cX8_propertyOnPage 36 = .ok (.invokevirtual 185, 3) := by decide +kernel
theorem dX8_propertyOnPage_39 : decode cX8_propertyOnPage 39 = .ok (.ireturn, 1) := by decide +kernel
theorem dX8_propertyOnPage_40 : decode cX8_propertyOnPage 40 = .ok (.aload_n 0, 1) := by decide +kernel
theorem dX8_propertyOnPage_41 : decode cX8_propertyOnPage 41 = .ok (.getfield 29, 3) := by decide +kernel
theorem dX8_propertyOnPage_44 : decode cX8_propertyOnPage 44 = .ok (.aload_n 0, 1) := by decide +kernel
theorem dX8_propertyOnPage_45 : decode cX8_propertyOnPage 45 = .ok (.getfield 10, 3) := by decide +kernel
theorem dX8_propertyOnPage_48 : decode cX8_propertyOnPage 48 = .ok (.invokevirtual 147, 3) := by decide +kernel
theorem dX8_propertyOnPage_51 : decode cX8_propertyOnPage 51 = .ok (.aload_n 0, 1) := by decide +kernel
theorem dX8_propertyOnPage_52 : decode cX8_propertyOnPage 52 = .ok (.getfield 29, 3) := by decide +kernel
theorem dX8_propertyOnPage_55 : decode cX8_propertyOnPage 55 = .ok (.iload_n 1, 1) := by decide +kernel
theorem dX8_propertyOnPage_56 : decode cX8_propertyOnPage 56 = .ok (.invokevirtual 227, 3) := by decide +kernel
theorem dX8_propertyOnPage_59 : decode cX8_propertyOnPage 59 = .ok (.ireturn, 1) := by decide +kernel
theorem dX8_propertyOnPage_60 : decode cX8_propertyOnPage 60 = .ok (.aload_n 0, 1) := by decide +kernel
theorem dX8_propertyOnPage_61 : decode cX8_propertyOnPage 61 = .ok (.getfield 10, 3) := by decide +kernel
theorem dX8_propertyOnPage_64 : decode cX8_propertyOnPage 64 = .ok (.iload_n 1, 1) := by decide +kernel
theorem dX8_propertyOnPage_65 : decode cX8_propertyOnPage 65 = .ok (.invokevirtual 230, 3) := by decide +kernel
theorem dX8_propertyOnPage_68 : decode cX8_propertyOnPage 68 = .ok (.ireturn, 1) := by decide +kernel
theorem dX8_propertyOnPage_69 : decode cX8_propertyOnPage 69 = .ok (.aload_n 0, 1) := by decide +kernel
theorem dX8_propertyOnPage_70 : decode cX8_propertyOnPage 70 = .ok (.getfield 10, 3) := by decide +kernel
theorem dX8_propertyOnPage_73 : decode cX8_propertyOnPage 73 = .ok (.iload_n 1, 1) := by decide +kernel
theorem dX8_propertyOnPage_74 : decode cX8_propertyOnPage 74 = .ok (.invokevirtual 182, 3) := by decide +kernel
theorem dX8_propertyOnPage_77 : decode cX8_propertyOnPage 77 = .ok (.ireturn, 1) := by decide +kernel
theorem dX8_isFree_0 : decode cX8_isFree 0 = .ok (.aload_n 0, 1) := by decide +kernel
theorem dX8_isFree_1 : decode cX8_isFree 1 = .ok (.getfield 10, 3) := by decide +kernel
theorem dX8_isFree_4 : decode cX8_isFree 4 = .ok (.getfield 59, 3) := by decide +kernel
theorem dX8_isFree_7 : decode cX8_isFree 7 = .ok (.iload_n 1, 1) := by decide +kernel
theorem dX8_isFree_8 : decode cX8_isFree 8 = .ok (.invokevirtual 117, 3) := by decide +kernel
theorem dX8_isFree_11 : decode cX8_isFree 11 = .ok (.ifCond .ne 22, 3) := by decide +kernel
theorem dX8_isFree_14 : decode cX8_isFree 14 = .ok (.aload_n 0, 1) := by decide +kernel
theorem dX8_isFree_15 : decode cX8_isFree 15 = .ok (.getfield 10, 3) := by decide +kernel
theorem dX8_isFree_18 : decode cX8_isFree 18 = .ok (.getfield 59, 3) := by decide +kernel
theorem dX8_isFree_21 : decode cX8_isFree 21 = .ok (.iload_n 2, 1) := by decide +kernel
theorem dX8_isFree_22 : decode cX8_isFree 22 = .ok (.invokevirtual 191, 3) := by decide +kernel
theorem dX8_isFree_25 : decode cX8_isFree 25 = .ok (.iconst (-1), 1) := by decide +kernel
theorem dX8_isFree_26 : decode cX8_isFree 26 = .ok (.if_icmp .ne 7, 3) := by decide +kernel
theorem dX8_isFree_29 : decode cX8_isFree 29 = .ok (.iconst 1, 1) := by decide +kernel
theorem dX8_isFree_30 : decode cX8_isFree 30 = .ok (.goto 4, 3) := by decide +kernel
theorem dX8_isFree_33 : decode cX8_isFree 33 = .ok (.iconst 0, 1) := by decide +kernel
theorem dX8_isFree_34 : decode cX8_isFree 34 = .ok (.ireturn, 1) := by decide +kernel
theorem dX8_isScrap_0 : decode cX8_isScrap 0 = .ok (.iload_n 1, 1) := by decide +kernel
theorem dX8_isScrap_1 : decode cX8_isScrap 1 = .ok (.iconst 0, 1) := by decide +kernel
theorem dX8_isScrap_2 : decode cX8_isScrap 2 = .ok (.aload_n 0, 1) := by decide +kernel
theorem dX8_isScrap_3 : decode cX8_isScrap 3 = .ok (.getfield 10, 3) := by decide +kernel
theorem dX8_isScrap_6 : decode cX8_isScrap 6 = .ok (.getfield 73, 3) := by decide +kernel
theorem dX8_isScrap_9 : decode cX8_isScrap 9 = .ok (.invokevirtual 77, 3) := by decide +kernel
theorem dX8_isScrap_12 : decode cX8_isScrap 12 = .ok (.iconst 1, 1) := by decide +kernel
theorem dX8_isScrap_13 : decode cX8_isScrap 13 = .ok (.isub, 1) := by decide +kernel
theorem dX8_isScrap_14 : decode cX8_isScrap 14 = .ok (.invokestatic 47, 3) := by decide +kernel
theorem dX8_isScrap_17 : decode cX8_isScrap 17 = .ok (.ireturn, 1) := by decide +kernel
theorem dX8_isPlace_0 : decode cX8_isPlace 0 = .ok (.iload_n 1, 1) := by decide +kernel
theorem dX8_isPlace_1 : decode cX8_isPlace 1 = .ok (.iconst 0, 1) := by decide +kernel
theorem dX8_isPlace_2 : decode cX8_isPlace 2 = .ok (.aload_n 0, 1) := by decide +kernel
theorem dX8_isPlace_3 : decode cX8_isPlace 3 = .ok (.getfield 10, 3) := by decide +kernel
theorem dX8_isPlace_6 : decode cX8_isPlace 6 = .ok (.getfield 59, 3) := by decide +kernel
theorem dX8_isPlace_9 : decode cX8_isPlace 9 = .ok (.invokevirtual 160, 3) := by decide +kernel
theorem dX8_isPlace_12 : decode cX8_isPlace 12 = .ok (.iconst 1, 1) := by decide +kernel
theorem dX8_isPlace_13 : decode cX8_isPlace 13 = .ok (.isub, 1) := by decide +kernel
theorem dX8_isPlace_14 : decode cX8_isPlace 14 = .ok (.invokestatic 47, 3) := by decide +kernel
theorem dX8_isPlace_17 : decode cX8_isPlace 17 = .ok (.ireturn, 1) := by decide +kernel
theorem dX8_isOrientation_0 : decode cX8_isOrientation 0 = .ok (.iload_n 0, 1) := by decide +kernel
theorem dX8_isOrientation_1 : decode cX8_isOrientation 1 = .ok (.iconst 0, 1) := by decide +kernel
theorem dX8_isOrientation_2 : decode cX8_isOrientation 2 = .ok (.bipush 7, 2) := by decide +kernel
theorem dX8_isOrientation_4 : decode cX8_isOrientation 4 = .ok (.invokestatic 47, 3) := by decide +kernel
theorem dX8_isOrientation_7 : decode cX8_isOrientation 7 = .ok (.ireturn, 1) := by decide +kernel
theorem dX8_isEdge_0 : decode cX8_isEdge 0 = .ok (.iload_n 0, 1) := by decide +kernel
theorem dX8_isEdge_1 : decode cX8_isEdge 1 = .ok (.iconst 0, 1) := by decide +kernel
theorem dX8_isEdge_2 : decode cX8_isEdge 2 = .ok (.iconst 3, 1) := by decide +kernel
theorem dX8_isEdge_3 : decode cX8_isEdge 3 = .ok (.invokestatic 47, 3) := by decide +kernel
theorem dX8_isEdge_6 : decode cX8_isEdge 6 = .ok (.ireturn, 1) := by decide +kernel
theorem dX8_isProfile_0 : decode cX8_isProfile 0 = .ok (.iload_n 0, 1) := by decide +kernel
theorem dX8_isProfile_1 : decode cX8_isProfile 1 = .ok (.iconst (-1), 1) := by decide +kernel
theorem dX8_isProfile_2 : decode cX8_isProfile 2 = .ok (.sipush 999, 3) := by decide +kernel
theorem dX8_isProfile_5 : decode cX8_isProfile 5 = .ok (.invokestatic 47, 3) := by decide +kernel
theorem dX8_isProfile_8 : decode cX8_isProfile 8 = .ok (.ireturn, 1) := by decide +kernel
theorem dX8_isWithin_0 : decode cX8_isWithin 0 = .ok (.iload_n 1, 1) := by decide +kernel
theorem dX8_isWithin_1 : decode cX8_isWithin 1 = .ok (.iload_n 0, 1) := by decide +kernel
theorem dX8_isWithin_2 : decode cX8_isWithin 2 = .ok (.if_icmp .gt 12, 3) := by decide +kernel
theorem dX8_isWithin_5 : decode cX8_isWithin 5 = .ok (.iload_n 0, 1) := by decide +kernel
theorem dX8_isWithin_6 : decode cX8_isWithin 6 = .ok (.iload_n 2, 1) := by decide +kernel
theorem dX8_isWithin_7 : decode cX8_isWithin 7 = .ok (.if_icmp .gt 7, 3) := by decide +kernel
theorem dX8_isWithin_10 : decode cX8_isWithin 10 = .ok (.iconst 1, 1) := by decide +kernel
theorem dX8_isWithin_11 : decode cX8_isWithin 11 = .ok (.goto 4, 3) := by decide +kernel
theorem dX8_isWithin_14 : decode cX8_isWithin 14 = .ok (.iconst 0, 1) := by decide +kernel
theorem dX8_isWithin_15 : decode cX8_isWithin 15 = .ok (.ireturn, 1) := by decide +kernel
theorem dX8_fillsFrom_0 : decode cX8_fillsFrom 0 = .ok (.iload_n 1, 1) := by decide +kernel
theorem dX8_fillsFrom_1 : decode cX8_fillsFrom 1 = .ok (.bipush 6, 2) := by decide +kernel
theorem dX8_fillsFrom_3 : decode cX8_fillsFrom 3 = .ok (.if_icmp .ge 14, 3) := by decide +kernel
theorem dX8_fillsFrom_6 : decode cX8_fillsFrom 6 = .ok (.iload_n 1, 1) := by decide +kernel
theorem dX8_fillsFrom_7 : decode cX8_fillsFrom 7 = .ok (.aload_n 0, 1) := by decide +kernel
theorem dX8_fillsFrom_8 : decode cX8_fillsFrom 8 = .ok (.getfield 59, 3) := by decide +kernel
theorem dX8_fillsFrom_11 : decode cX8_fillsFrom 11 = .ok (.invokevirtual 160, 3) := by decide +kernel
theorem dX8_fillsFrom_14 : decode cX8_fillsFrom 14 = .ok (.if_icmp .lt 5, 3) := by decide +kernel
theorem dX8_fillsFrom_17 : decode cX8_fillsFrom 17 = .ok (.iconst 1, 1) := by decide +kernel
theorem dX8_fillsFrom_18 : decode cX8_fillsFrom 18 = .ok (.ireturn, 1) := by decide +kernel
theorem dX8_fillsFrom_19 : decode cX8_fillsFrom 19 = .ok (.iconst 0, 1) := by decide +kernel
theorem dX8_fillsFrom_20 : decode cX8_fillsFrom 20 = .ok (.istore_n 2, 1) := by decide +kernel
theorem dX8_fillsFrom_21 : decode cX8_fillsFrom 21 = .ok (.iload_n 2, 1) := by decide +kernel
theorem dX8_fillsFrom_22 : decode cX8_fillsFrom 22 = .ok (.aload_n 0, 1) := by decide +kernel
theorem dX8_fillsFrom_23 : decode cX8_fillsFrom 23 = .ok (.getfield 73, 3) := by decide +kernel
theorem dX8_fillsFrom_26 : decode cX8_fillsFrom 26 = .ok (.invokevirtual 77, 3) := by decide +kernel
theorem dX8_fillsFrom_29 : decode cX8_fillsFrom 29 = .ok (.if_icmp .ge 74, 3) := by decide +kernel
theorem dX8_fillsFrom_32 : decode cX8_fillsFrom 32 = .ok (.iconst 0, 1) := by decide +kernel
theorem dX8_fillsFrom_33 : decode cX8_fillsFrom 33 = .ok (.istore_n 3, 1) := by decide +kernel
theorem dX8_fillsFrom_34 : decode cX8_fillsFrom 34 = .ok (.iload_n 3, 1) := by decide +kernel
theorem dX8_fillsFrom_35 : decode cX8_fillsFrom 35 = .ok (.bipush 8, 2) := by decide +kernel
theorem dX8_fillsFrom_37 : decode cX8_fillsFrom 37 = .ok (.if_icmp .ge 60, 3) := by decide +kernel
theorem dX8_fillsFrom_40 : decode cX8_fillsFrom 40 = .ok (.aload_n 0, 1) := by decide +kernel
theorem dX8_fillsFrom_41 : decode cX8_fillsFrom 41 = .ok (.getfield 59, 3) := by decide +kernel
theorem dX8_fillsFrom_44 : decode cX8_fillsFrom 44 = .ok (.iload_n 2, 1) := by decide +kernel
theorem dX8_fillsFrom_45 : decode cX8_fillsFrom 45 = .ok (.invokevirtual 117, 3) := by decide +kernel
theorem dX8_fillsFrom_48 : decode cX8_fillsFrom 48 = .ok (.ifCond .ne 43, 3) := by decide +kernel
theorem dX8_fillsFrom_51 : decode cX8_fillsFrom 51 = .ok (.aload_n 0, 1) := by decide +kernel
theorem dX8_fillsFrom_52 : decode cX8_fillsFrom 52 = .ok (.iload_n 2, 1) := by decide +kernel
theorem dX8_fillsFrom_53 : decode cX8_fillsFrom 53 = .ok (.iload_n 1, 1) := by decide +kernel
theorem dX8_fillsFrom_54 : decode cX8_fillsFrom 54 = .ok (.iload_n 3, 1) := by decide +kernel
theorem dX8_fillsFrom_55 : decode cX8_fillsFrom 55 = .ok (.invokevirtual 173, 3) := by decide +kernel
theorem dX8_fillsFrom_58 : decode cX8_fillsFrom 58 = .ok (.ifCond .eq 33, 3) := by decide +kernel
theorem dX8_fillsFrom_61 : decode cX8_fillsFrom 61 = .ok (.aload_n 0, 1) := by decide +kernel
theorem dX8_fillsFrom_62 : decode cX8_fillsFrom 62 = .ok (.getfield 59, 3) := by decide +kernel
theorem dX8_fillsFrom_65 : decode cX8_fillsFrom 65 = .ok (.iload_n 2, 1) := by decide +kernel
theorem dX8_fillsFrom_66 : decode cX8_fillsFrom 66 = .ok (.iload_n 1, 1) := by decide +kernel
theorem dX8_fillsFrom_67 : decode cX8_fillsFrom 67 = .ok (.iload_n 3, 1) := by decide +kernel
theorem dX8_fillsFrom_68 : decode cX8_fillsFrom 68 = .ok (.invokevirtual 176, 3) := by decide +kernel
theorem dX8_fillsFrom_71 : decode cX8_fillsFrom 71 = .ok (.aload_n 0, 1) := by decide +kernel
theorem dX8_fillsFrom_72 : decode cX8_fillsFrom 72 = .ok (.iload_n 1, 1) := by decide +kernel
theorem dX8_fillsFrom_73 : decode cX8_fillsFrom 73 = .ok (.iconst 1, 1) := by decide +kernel
theorem dX8_fillsFrom_74 : decode cX8_fillsFrom 74 = .ok (.iadd, 1) := by decide +kernel
theorem dX8_fillsFrom_75 : decode cX8_fillsFrom 75 = .ok (.invokestatic 213, 3) := by decide +kernel
theorem dX8_fillsFrom_78 : decode cX8_fillsFrom 78 = .ok (.ifCond .eq 5, 3) := by decide +kernel
theorem dX8_fillsFrom_81 : decode cX8_fillsFrom 81 = .ok (.iconst 1, 1) := by decide +kernel
theorem dX8_fillsFrom_82 : decode cX8_fillsFrom 82 = .ok (.ireturn, 1) := by decide +kernel
theorem dX8_fillsFrom_83 : decode cX8_fillsFrom 83 = .ok (.aload_n 0, 1) := by decide +kernel
theorem dX8_fillsFrom_84 : decode cX8_fillsFrom 84 = .ok (.getfield 59, 3) := by decide +kernel
theorem dX8_fillsFrom_87 : decode cX8_fillsFrom 87 = .ok (.iload_n 2, 1) := by decide +kernel
theorem dX8_fillsFrom_88 : decode cX8_fillsFrom 88 = .ok (.invokevirtual 188, 3) := by decide +kernel
theorem dX8_fillsFrom_91 : decode cX8_fillsFrom 91 = .ok (.iinc 3 1, 3) := by decide +kernel
theorem dX8_fillsFrom_94 : decode cX8_fillsFrom 94 = .ok (.goto (-60), 3) := by decide +kernel
theorem dX8_fillsFrom_97 : decode cX8_fillsFrom 97 = .ok (.iinc 2 1, 3) := by decide +kernel
theorem dX8_fillsFrom_100 : decode cX8_fillsFrom 100 = .ok (.goto (-79), 3) := by decide +kernel
theorem dX8_fillsFrom_103 : decode cX8_fillsFrom 103 = .ok (.iconst 0, 1) := by decide +kernel
theorem dX8_fillsFrom_104 : decode cX8_fillsFrom 104 = .ok (.ireturn, 1) := by decide +kernel
theorem dX9_init_0 : decode cX9_init 0 = .ok (.aload_n 0, 1) := by decide +kernel
theorem dX9_init_1 : decode cX9_init 1 = .ok (.invokespecial 1, 3) := by decide +kernel
theorem dX9_init_4 : decode cX9_init 4 = .ok (.aload_n 0, 1) := by decide +kernel
theorem dX9_init_5 : decode cX9_init 5 = .ok (.sipush 135, 3) := by decide +kernel
theorem dX9_init_8 : decode cX9_init 8 = .ok (.newarray .int, 2) := by decide +kernel
theorem dX9_init_10 : decode cX9_init 10 = .ok (.putfield 7, 3) := by decide +kernel
theorem dX9_init_13 : decode cX9_init 13 = .ok (.aload_n 0, 1) := by decide +kernel
theorem dX9_init_14 : decode cX9_init 14 = .ok (.sipush 675, 3) := by decide +kernel
theorem dX9_init_17 : decode cX9_init 17 = .ok (.newarray .int, 2) := by decide +kernel
theorem dX9_init_19 : decode cX9_init 19 = .ok (.putfield 13, 3) := by decide +kernel
theorem dX9_init_22 : decode cX9_init 22 = .ok (.aload_n 0, 1) := by decide +kernel
theorem dX9_init_23 : decode cX9_init 23 = .ok (.bipush 60, 2) := by decide +kernel
theorem dX9_init_25 : decode cX9_init 25 = .ok (.newarray .char, 2) := by decide +kernel
theorem dX9_init_27 : decode cX9_init 27 = .ok (.putfield 16, 3) := by decide +kernel
theorem dX9_init_30 : decode cX9_init 30 = .ok (.aload_n 0, 1) := by decide +kernel
theorem dX9_init_31 : decode cX9_init 31 = .ok (.iconst 4, 1) := by decide +kernel
theorem dX9_init_32 : decode cX9_init 32 = .ok (.newarray .int, 2) := by decide +kernel
theorem dX9_init_34 : decode cX9_init 34 = .ok (.putfield 20, 3) := by decide +kernel
theorem dX9_init_37 : decode cX9_init 37 = .ok (.aload_n 0, 1) := by decide +kernel
theorem dX9_init_38 : decode cX9_init 38 = .ok (.iconst 4, 1) := by decide +kernel
theorem dX9_init_39 : decode cX9_init 39 = .ok (.newarray .int, 2) := by decide +kernel
theorem dX9_init_41 : decode cX9_init 41 = .ok (.putfield 23, 3) := by decide +kernel
theorem dX9_init_44 : decode cX9_init 44 = .ok (.aload_n 0, 1) := by decide +kernel
theorem dX9_init_45 : decode cX9_init 45 = .ok (.bipush 9, 2) := by decide +kernel
theorem dX9_init_47 : decode cX9_init 47 = .ok (.newarray .int, 2) := by decide +kernel
theorem dX9_init_49 : decode cX9_init 49 = .ok (.putfield 26, 3) := by decide +kernel
theorem dX9_init_52 : decode cX9_init 52 = .ok (.aload_n 0, 1) := by decide +kernel
theorem dX9_init_53 : decode cX9_init 53 = .ok (.bipush 12, 2) := by decide +kernel
theorem dX9_init_55 : decode cX9_init 55 = .ok (.newarray .int, 2) := by decide +kernel
theorem dX9_init_57 : decode cX9_init 57 = .ok (.putfield 29, 3) := by decide +kernel
theorem dX9_init_60 : decode cX9_init 60 = .ok (.aload_n 0, 1) := by decide +kernel
theorem dX9_init_61 : decode cX9_init 61 = .ok (.bipush 6, 2) := by decide +kernel
theorem dX9_init_63 : decode cX9_init 63 = .ok (.newarray .int, 2) := by decide +kernel
theorem dX9_init_65 : decode cX9_init 65 = .ok (.putfield 32, 3) := by decide +kernel
theorem dX9_init_68 : decode cX9_init 68 = .ok (.aload_n 0, 1) := by decide +kernel
theorem dX9_init_69 : decode cX9_init 69 = .ok (.sipush 135, 3) := by decide +kernel
theorem dX9_init_72 : decode cX9_init 72 = .ok (.newarray .int, 2) := by decide +kernel
theorem dX9_init_74 : decode cX9_init 74 = .ok (.putfield 35, 3) := by decide +kernel
theorem dX9_init_77 : decode cX9_init 77 = .ok (.aload_n 0, 1) := by decide +kernel
theorem dX9_init_78 : decode cX9_init 78 = .ok (.getfield 7, 3) := by decide +kernel
theorem dX9_init_81 : decode cX9_init 81 = .ok (.iconst 0, 1) := by decide +kernel
theorem dX9_init_82 : decode cX9_init 82 = .ok (.iconst 4, 1) := by decide +kernel
theorem dX9_init_83 : decode cX9_init 83 = .ok (.iastore, 1) := by decide +kernel
theorem dX9_init_84 : decode cX9_init 84 = .ok (.aload_n 0, 1) := by decide +kernel
theorem dX9_init_85 : decode cX9_init 85 = .ok (.getfield 7, 3) := by decide +kernel
theorem dX9_init_88 : decode cX9_init 88 = .ok (.iconst 1, 1) := by decide +kernel
theorem dX9_init_89 : decode cX9_init 89 = .ok (.iconst 4, 1) := by decide +kernel
theorem dX9_init_90 : decode cX9_init 90 = .ok (.iastore, 1) := by decide +kernel
theorem dX9_init_91 : decode cX9_init 91 = .ok (.return_, 1) := by decide +kernel
theorem dX9_in_0 : decode cX9_in 0 = .ok (.iload_n 0, 1) := by decide +kernel
theorem dX9_in_1 : decode cX9_in 1 = .ok (.iload_n 1, 1) := by decide +kernel
theorem dX9_in_2 : decode cX9_in 2 = .ok (.if_icmp .lt 12, 3) := by decide +kernel
theorem dX9_in_5 : decode cX9_in 5 = .ok (.iload_n 0, 1) := by decide +kernel
theorem dX9_in_6 : decode cX9_in 6 = .ok (.iload_n 2, 1) := by decide +kernel
theorem dX9_in_7 : decode cX9_in 7 = .ok (.if_icmp .gt 7, 3) := by decide +kernel
theorem dX9_in_10 : decode cX9_in 10 = .ok (.iconst 1, 1) := by decide +kernel
theorem dX9_in_11 : decode cX9_in 11 = .ok (.goto 4, 3) := by decide +kernel
theorem dX9_in_14 : decode cX9_in 14 = .ok (.iconst 0, 1) := by decide +kernel
theorem dX9_in_15 : decode cX9_in 15 = .ok (.ireturn, 1) := by decide +kernel
theorem dX9_isScrap_0 : decode cX9_isScrap 0 = .ok (.iload_n 1, 1) := by decide +kernel
theorem dX9_isScrap_1 : decode cX9_isScrap 1 = .ok (.iconst 0, 1) := by decide +kernel
theorem dX9_isScrap_2 : decode cX9_isScrap 2 = .ok (.aload_n 0, 1) := by decide +kernel
theorem dX9_isScrap_3 : decode cX9_isScrap 3 = .ok (.getfield 7, 3) := by decide +kernel
theorem dX9_isScrap_6 : decode cX9_isScrap 6 = .ok (.iconst 2, 1) := by decide +kernel
theorem dX9_isScrap_7 : decode cX9_isScrap 7 = .ok (.iaload, 1) := by decide +kernel
theorem dX9_isScrap_8 : decode cX9_isScrap 8 = .ok (.iconst 1, 1) := by decide +kernel
theorem dX9_isScrap_9 : decode cX9_isScrap 9 = .ok (.isub, 1) := by decide +kernel
theorem dX9_isScrap_10 : decode cX9_isScrap 10 = .ok (.invokestatic 38, 3) := by decide +kernel
theorem dX9_isScrap_13 : decode cX9_isScrap 13 = .ok (.ireturn, 1) := by decide +kernel
theorem dX9_places_0 : decode cX9_places 0 = .ok (.aload_n 0, 1) := by decide +kernel
theorem dX9_places_1 : decode cX9_places 1 = .ok (.getfield 7, 3) := by decide +kernel
theorem dX9_places_4 : decode cX9_places 4 = .ok (.iconst 0, 1) := by decide +kernel
theorem dX9_places_5 : decode cX9_places 5 = .ok (.iaload, 1) := by decide +kernel
theorem dX9_places_6 : decode cX9_places 6 = .ok (.aload_n 0, 1) := by decide +kernel
theorem dX9_places_7 : decode cX9_places 7 = .ok (.getfield 7, 3) := by decide +kernel
theorem dX9_places_10 : decode cX9_places 10 = .ok (.iconst 1, 1) := by decide +kernel
theorem dX9_places_11 : decode cX9_places 11 = .ok (.iaload, 1) := by decide +kernel
theorem dX9_places_12 : decode cX9_places 12 = .ok (.imul, 1) := by decide +kernel
theorem dX9_places_13 : decode cX9_places 13 = .ok (.ireturn, 1) := by decide +kernel
theorem dX9_isPlace_0 : decode cX9_isPlace 0 = .ok (.iload_n 1, 1) := by decide +kernel
theorem dX9_isPlace_1 : decode cX9_isPlace 1 = .ok (.iconst 0, 1) := by decide +kernel
theorem dX9_isPlace_2 : decode cX9_isPlace 2 = .ok (.aload_n 0, 1) := by decide +kernel
theorem dX9_isPlace_3 : decode cX9_isPlace 3 = .ok (.invokevirtual 42, 3) := by decide +kernel
theorem dX9_isPlace_6 : decode cX9_isPlace 6 = .ok (.iconst 1, 1) := by decide +kernel
theorem dX9_isPlace_7 : decode cX9_isPlace 7 = .ok (.isub, 1) := by decide +kernel
theorem dX9_isPlace_8 : decode cX9_isPlace 8 = .ok (.invokestatic 38, 3) := by decide +kernel
theorem dX9_isPlace_11 : decode cX9_isPlace 11 = .ok (.ireturn, 1) := by decide +kernel
theorem dX9_records_0 : decode cX9_records 0 = .ok (.aload_n 0, 1) := by decide +kernel
theorem dX9_records_1 : decode cX9_records 1 = .ok (.getfield 46, 3) := by decide +kernel
theorem dX9_records_4 : decode cX9_records 4 = .ok (.iconst 5, 1) := by decide +kernel
theorem dX9_records_5 : decode cX9_records 5 = .ok (.if_icmp .ne 44, 3) := by decide +kernel
theorem dX9_records_8 : decode cX9_records 8 = .ok (.iconst 0, 1) := by decide +kernel
theorem dX9_records_9 : decode cX9_records 9 = .ok (.istore_n 1, 1) := by decide +kernel
theorem dX9_records_10 : decode cX9_records 10 = .ok (.iload_n 1, 1) := by decide +kernel
theorem dX9_records_11 : decode cX9_records 11 = .ok (.sipush 540, 3) := by decide +kernel
theorem dX9_records_14 : decode cX9_records 14 = .ok (.if_icmp .ge 25, 3) := by decide +kernel
theorem dX9_records_17 : decode cX9_records 17 = .ok (.aload_n 0, 1) := by decide +kernel
theorem dX9_records_18 : decode cX9_records 18 = .ok (.getfield 13, 3) := by decide +kernel
theorem dX9_records_21 : decode cX9_records 21 = .ok (.iload_n 1, 1) := by decide +kernel
theorem dX9_records_22 : decode cX9_records 22 = .ok (.aload_n 0, 1) := by decide +kernel
theorem dX9_records_23 : decode cX9_records 23 = .ok (.getfield 13, 3) := by decide +kernel
theorem dX9_records_26 : decode cX9_records 26 = .ok (.iload_n 1, 1) := by decide +kernel
theorem dX9_records_27 : decode cX9_records 27 = .ok (.sipush 135, 3) := by decide +kernel
theorem dX9_records_30 : decode cX9_records 30 = .ok (.iadd, 1) := by decide +kernel
theorem dX9_records_31 : decode cX9_records 31 = .ok (.iaload, 1) := by decide +kernel
theorem dX9_records_32 : decode cX9_records 32 = .ok (.iastore, 1) := by decide +kernel
theorem dX9_records_33 : decode cX9_records 33 = .ok (.iinc 1 1, 3) := by decide +kernel
theorem dX9_records_36 : decode cX9_records 36 = .ok (.goto (-26), 3) := by decide +kernel
theorem dX9_records_39 : decode cX9_records 39 = .ok (.aload_n 0, 1) := by decide +kernel
theorem dX9_records_40 : decode cX9_records 40 = .ok (.dup, 1) := by decide +kernel
theorem dX9_records_41 : decode cX9_records 41 = .ok (.getfield 46, 3) := by decide +kernel
theorem dX9_records_44 : decode cX9_records 44 = .ok (.iconst 1, 1) := by decide +kernel
theorem dX9_records_45 : decode cX9_records 45 = .ok (.isub, 1) := by decide +kernel
theorem dX9_records_46 : decode cX9_records 46 = .ok (.putfield 46, 3) := by decide +kernel
theorem dX9_records_49 : decode cX9_records 49 = .ok (.iconst 0, 1) := by decide +kernel
theorem dX9_records_50 : decode cX9_records 50 = .ok (.istore_n 1, 1) := by decide +kernel
theorem dX9_records_51 : decode cX9_records 51 = .ok (.iload_n 1, 1) := by decide +kernel
theorem dX9_records_52 : decode cX9_records 52 = .ok (.sipush 135, 3) := by decide +kernel
theorem dX9_records_55 : decode cX9_records 55 = .ok (.if_icmp .ge 30, 3) := by decide +kernel
theorem dX9_records_58 : decode cX9_records 58 = .ok (.aload_n 0, 1) := by decide +kernel
theorem dX9_records_59 : decode cX9_records 59 = .ok (.getfield 13, 3) := by decide +kernel
theorem dX9_records_62 : decode cX9_records 62 = .ok (.sipush 135, 3) := by decide +kernel
theorem dX9_records_65 : decode cX9_records 65 = .ok (.aload_n 0, 1) := by decide +kernel
theorem dX9_records_66 : decode cX9_records 66 = .ok (.getfield 46, 3) := by decide +kernel
theorem dX9_records_69 : decode cX9_records 69 = .ok (.imul, 1) := by decide +kernel
theorem dX9_records_70 : decode cX9_records 70 = .ok (.iload_n 1, 1) := by decide +kernel
theorem dX9_records_71 : decode cX9_records 71 = .ok (.iadd, 1) := by decide +kernel
theorem dX9_records_72 : decode cX9_records 72 = .ok (.aload_n 0, 1) := by decide +kernel
theorem dX9_records_73 : decode cX9_records 73 = .ok (.getfield 7, 3) := by decide +kernel
theorem dX9_records_76 : decode cX9_records 76 = .ok (.iload_n 1, 1) := by decide +kernel
theorem dX9_records_77 : decode cX9_records 77 = .ok (.iaload, 1) := by decide +kernel
theorem dX9_records_78 : decode cX9_records 78 = .ok (.iastore, 1) := by decide +kernel
theorem dX9_records_79 : decode cX9_records 79 = .ok (.iinc 1 1, 3) := by decide +kernel
theorem dX9_records_82 : decode cX9_records 82 = .ok (.goto (-31), 3) := by decide +kernel
theorem dX9_records_85 : decode cX9_records 85 = .ok (.aload_n 0, 1) := by decide +kernel
theorem dX9_records_86 : decode cX9_records 86 = .ok (.dup, 1) := by decide +kernel
theorem dX9_records_87 : decode cX9_records 87 = .ok (.getfield 46, 3) := by decide +kernel
theorem dX9_records_90 : decode cX9_records 90 = .ok (.iconst 1, 1) := by decide +kernel
theorem dX9_records_91 : decode cX9_records 91 = .ok (.iadd, 1) := by decide +kernel
theorem dX9_records_92 : decode cX9_records 92 = .ok (.putfield 46, 3) := by decide +kernel
theorem dX9_records_95 : decode cX9_records 95 = .ok (.return_, 1) := by decide +kernel
theorem dX9_reversed_0 : decode cX9_reversed 0 = .ok (.iload_n 0, 1) := by decide +kernel
theorem dX9_reversed_1 : decode cX9_reversed 1 = .ok (.ifCond .ge 7, 3) := by decide +kernel
theorem dX9_reversed_4 : decode cX9_reversed 4 = .ok (.iload_n 0, 1) := by decide +kernel
theorem dX9_reversed_5 : decode cX9_reversed 5 = .ok (.goto 26, 3) := by decide +kernel
theorem dX9_reversed_8 : decode cX9_reversed 8 = .ok (.iload_n 0, 1) := by decide +kernel
theorem dX9_reversed_9 : decode cX9_reversed 9 = .ok (.bipush 10, 2) := by decide +kernel
theorem dX9_reversed_11 : decode cX9_reversed 11 = .ok (.irem, 1) := by decide +kernel
theorem dX9_reversed_12 : decode cX9_reversed 12 = .ok (.bipush 100, 2) := by decide +kernel
theorem dX9_reversed_14 : decode cX9_reversed 14 = .ok (.imul, 1) := by decide +kernel
theorem dX9_reversed_15 : decode cX9_reversed 15 = .ok (.iload_n 0, 1) := by decide +kernel
theorem dX9_reversed_16 : decode cX9_reversed 16 = .ok (.bipush 10, 2) := by decide +kernel
theorem dX9_reversed_18 : decode cX9_reversed 18 = .ok (.idiv, 1) := by decide +kernel
theorem dX9_reversed_19 : decode cX9_reversed 19 = .ok (.bipush 10, 2) := by decide +kernel
theorem dX9_reversed_21 : decode cX9_reversed 21 = .ok (.irem, 1) := by decide +kernel
theorem dX9_reversed_22 : decode cX9_reversed 22 = .ok (.bipush 10, 2) := by decide +kernel
theorem dX9_reversed_24 : decode cX9_reversed 24 = .ok (.imul, 1) := by decide +kernel
theorem dX9_reversed_25 : decode cX9_reversed 25 = .ok (.iadd, 1) := by decide +kernel
theorem dX9_reversed_26 : decode cX9_reversed 26 = .ok (.iload_n 0, 1) := by decide +kernel
theorem dX9_reversed_27 : decode cX9_reversed 27 = .ok (.bipush 100, 2) := by decide +kernel
theorem dX9_reversed_29 : decode cX9_reversed 29 = .ok (.idiv, 1) := by decide +kernel
theorem dX9_reversed_30 : decode cX9_reversed 30 = .ok (.iadd, 1) := by decide +kernel
theorem dX9_reversed_31 : decode cX9_reversed 31 = .ok (.ireturn, 1) := by decide +kernel
theorem dX9_turns_0 : decode cX9_turns 0 = .ok (.iload_n 2, 1) := by decide +kernel
theorem dX9_turns_1 : decode cX9_turns 1 = .ok (.iconst 3, 1) := by decide +kernel
theorem dX9_turns_2 : decode cX9_turns 2 = .ok (.if_icmp .le 7, 3) := by decide +kernel
theorem dX9_turns_5 : decode cX9_turns 5 = .ok (.iconst 1, 1) := by decide +kernel
theorem dX9_turns_6 : decode cX9_turns 6 = .ok (.goto 4, 3) := by decide +kernel
theorem dX9_turns_9 : decode cX9_turns 9 = .ok (.iconst 0, 1) := by decide +kernel
theorem dX9_turns_10 : decode cX9_turns 10 = .ok (.istore_n 3, 1) := by decide +kernel
theorem dX9_turns_11 : decode cX9_turns 11 = .ok (.iconst 0, 1) := by decide +kernel
theorem dX9_turns_12 : decode cX9_turns 12 = .ok (.istore 4, 2) := by decide +kernel
theorem dX9_turns_14 : decode cX9_turns 14 = .ok (.iload 4, 2) := by decide +kernel
theorem dX9_turns_16 : decode cX9_turns 16 = .ok (.iconst 4, 1) := by decide +kernel
theorem dX9_turns_17 : decode cX9_turns 17 = .ok (.if_icmp .ge 116, 3) := by decide +kernel
theorem dX9_turns_20 : decode cX9_turns 20 = .ok (.iload_n 3, 1) := by decide +kernel
theorem dX9_turns_21 : decode cX9_turns 21 = .ok (.ifCond .eq 18, 3) := by decide +kernel
theorem dX9_turns_24 : decode cX9_turns 24 = .ok (.iload 4, 2) := by decide +kernel
theorem dX9_turns_26 : decode cX9_turns 26 = .ok (.iconst 2, 1) := by decide +kernel
theorem dX9_turns_27 : decode cX9_turns 27 = .ok (.irem, 1) := by decide +kernel
theorem dX9_turns_28 : decode cX9_turns 28 = .ok (.iconst 1, 1) := by decide +kernel
theorem dX9_turns_29 : decode cX9_turns 29 = .ok (.if_icmp .ne 10, 3) := by decide +kernel
theorem dX9_turns_32 : decode cX9_turns 32 = .ok (.iconst 4, 1) := by decide +kernel
theorem dX9_turns_33 : decode cX9_turns 33 = .ok (.iload 4, 2) := by decide +kernel
theorem dX9_turns_35 : decode cX9_turns 35 = .ok (.isub, 1) := by decide +kernel
theorem dX9_turns_36 : decode cX9_turns 36 = .ok (.goto 5, 3) := by decide +kernel
theorem dX9_turns_39 : decode cX9_turns 39 = .ok (.iload 4, 2) := by decide +kernel
theorem dX9_turns_41 : decode cX9_turns 41 = .ok (.istore 5, 2) := by decide +kernel
theorem dX9_turns_43 : decode cX9_turns 43 = .ok (.aload_n 0, 1) := by decide +kernel
theorem dX9_turns_44 : decode cX9_turns 44 = .ok (.getfield 7, 3) := by decide +kernel
theorem dX9_turns_47 : decode cX9_turns 47 = .ok (.iconst 3, 1) := by decide +kernel
theorem dX9_turns_48 : decode cX9_turns 48 = .ok (.iconst 4, 1) := by decide +kernel
theorem dX9_turns_49 : decode cX9_turns 49 = .ok (.iload_n 1, 1) := by decide +kernel
theorem dX9_turns_50 : decode cX9_turns 50 = .ok (.imul, 1) := by decide +kernel
theorem dX9_turns_51 : decode cX9_turns 51 = .ok (.iadd, 1) := by decide +kernel
theorem dX9_turns_52 : decode cX9_turns 52 = .ok (.iload 5, 2) := by decide +kernel
theorem dX9_turns_54 : decode cX9_turns 54 = .ok (.iadd, 1) := by decide +kernel
theorem dX9_turns_55 : decode cX9_turns 55 = .ok (.iaload, 1) := by decide +kernel
theorem dX9_turns_56 : decode cX9_turns 56 = .ok (.istore 6, 2) := by decide +kernel
theorem dX9_turns_58 : decode cX9_turns 58 = .ok (.aload_n 0, 1) := by decide +kernel
theorem dX9_turns_59 : decode cX9_turns 59 = .ok (.getfield 20, 3) := by decide +kernel
theorem dX9_turns_62 : decode cX9_turns 62 = .ok (.iload 4, 2) := by decide +kernel
theorem dX9_turns_64 : decode cX9_turns 64 = .ok (.iload_n 3, 1) := by decide +kernel
theorem dX9_turns_65 : decode cX9_turns 65 = .ok (.ifCond .eq 18, 3) := by decide +kernel
theorem dX9_turns_68 : decode cX9_turns 68 = .ok (.iload 4, 2) := by decide +kernel
theorem dX9_turns_70 : decode cX9_turns 70 = .ok (.iconst 2, 1) := by decide +kernel
theorem dX9_turns_71 : decode cX9_turns 71 = .ok (.irem, 1) := by decide +kernel
theorem dX9_turns_72 : decode cX9_turns 72 = .ok (.ifCond .ne 11, 3) := by decide +kernel
theorem dX9_turns_75 : decode cX9_turns 75 = .ok (.iload 6, 2) := by decide +kernel
theorem dX9_turns_77 : decode cX9_turns 77 = .ok (.invokestatic 50, 3) := by decide +kernel
theorem dX9_turns_80 : decode cX9_turns 80 = .ok (.goto 5, 3) := by decide +kernel
theorem dX9_turns_83 : decode cX9_turns 83 = .ok (.iload 6, 2) := by decide +kernel
theorem dX9_turns_85 : decode cX9_turns 85 = .ok (.iastore, 1) := by decide +kernel
theorem dX9_turns_86 : decode cX9_turns 86 = .ok (.aload_n 0, 1) := by decide +kernel
theorem dX9_turns_87 : decode cX9_turns 87 = .ok (.getfield 23, 3) := by decide +kernel
theorem dX9_turns_90 : decode cX9_turns 90 = .ok (.iload 4, 2) := by decide +kernel
theorem dX9_turns_92 : decode cX9_turns 92 = .ok (.iload_n 3, 1) := by decide +kernel
end
section
theorem dX9_turns_93 : decode cX9_turns 93 = .ok (.ifCond .eq 19, 3) := by decide +kernel
theorem dX9_turns_96 : decode cX9_turns 96 = .ok (.aload_n 0, 1) := by decide +kernel
theorem dX9_turns_97 : decode cX9_turns 97 = .ok (.getfield 7, 3) := by decide +kernel
theorem dX9_turns_100 : decode cX9_turns 100 = .ok (.bipush 99, 2) := by decide +kernel
theorem dX9_turns_102 : decode cX9_turns 102 = .ok (.iload_n 1, 1) := by decide +kernel
theorem dX9_turns_103 : decode cX9_turns 103 = .ok (.iadd, 1) := by decide +kernel
theorem dX9_turns_104 : decode cX9_turns 104 = .ok (.iaload, 1) := by decide +kernel
theorem dX9_turns_105 : decode cX9_turns 105 = .ok (.ifCond .ne 7, 3) := by decide +kernel
theorem dX9_turns_108 : decode cX9_turns 108 = .ok (.iconst 0, 1) := by decide +kernel
theorem dX9_turns_109 : decode cX9_turns 109 = .ok (.goto 17, 3) := by decide +kernel
theorem dX9_turns_112 : decode cX9_turns 112 = .ok (.aload_n 0, 1) := by decide +kernel
theorem dX9_turns_113 : decode cX9_turns 113 = .ok (.getfield 7, 3) := by decide +kernel
theorem dX9_turns_116 : decode cX9_turns 116 = .ok (.bipush 51, 2) := by decide +kernel
theorem dX9_turns_118 : decode cX9_turns 118 = .ok (.iconst 4, 1) := by decide +kernel
theorem dX9_turns_119 : decode cX9_turns 119 = .ok (.iload_n 1, 1) := by decide +kernel
theorem dX9_turns_120 : decode cX9_turns 120 = .ok (.imul, 1) := by decide +kernel
theorem dX9_turns_121 : decode cX9_turns 121 = .ok (.iadd, 1) := by decide +kernel
theorem dX9_turns_122 : decode cX9_turns 122 = .ok (.iload 5, 2) := by decide +kernel
theorem dX9_turns_124 : decode cX9_turns 124 = .ok (.iadd, 1) := by decide +kernel
theorem dX9_turns_125 : decode cX9_turns 125 = .ok (.iaload, 1) := by decide +kernel
theorem dX9_turns_126 : decode cX9_turns 126 = .ok (.iastore, 1) := by decide +kernel
theorem dX9_turns_127 : decode cX9_turns 127 = .ok (.iinc 4 1, 3) := by decide +kernel
theorem dX9_turns_130 : decode cX9_turns 130 = .ok (.goto (-116), 3) := by decide +kernel
theorem dX9_turns_133 : decode cX9_turns 133 = .ok (.iconst 0, 1) := by decide +kernel
theorem dX9_turns_134 : decode cX9_turns 134 = .ok (.istore 4, 2) := by decide +kernel
theorem dX9_turns_136 : decode cX9_turns 136 = .ok (.iload 4, 2) := by decide +kernel
theorem dX9_turns_138 : decode cX9_turns 138 = .ok (.iload_n 2, 1) := by decide +kernel
theorem dX9_turns_139 : decode cX9_turns 139 = .ok (.iconst 4, 1) := by decide +kernel
theorem dX9_turns_140 : decode cX9_turns 140 = .ok (.irem, 1) := by decide +kernel
theorem dX9_turns_141 : decode cX9_turns 141 = .ok (.if_icmp .ge 119, 3) := by decide +kernel
theorem dX9_turns_144 : decode cX9_turns 144 = .ok (.aload_n 0, 1) := by decide +kernel
theorem dX9_turns_145 : decode cX9_turns 145 = .ok (.getfield 20, 3) := by decide +kernel
theorem dX9_turns_148 : decode cX9_turns 148 = .ok (.iconst 0, 1) := by decide +kernel
theorem dX9_turns_149 : decode cX9_turns 149 = .ok (.iaload, 1) := by decide +kernel
theorem dX9_turns_150 : decode cX9_turns 150 = .ok (.istore 5, 2) := by decide +kernel
theorem dX9_turns_152 : decode cX9_turns 152 = .ok (.aload_n 0, 1) := by decide +kernel
theorem dX9_turns_153 : decode cX9_turns 153 = .ok (.getfield 20, 3) := by decide +kernel
theorem dX9_turns_156 : decode cX9_turns 156 = .ok (.iconst 0, 1) := by decide +kernel
theorem dX9_turns_157 : decode cX9_turns 157 = .ok (.aload_n 0, 1) := by decide +kernel
theorem dX9_turns_158 : decode cX9_turns 158 = .ok (.getfield 20, 3) := by decide +kernel
theorem dX9_turns_161 : decode cX9_turns 161 = .ok (.iconst 3, 1) := by decide +kernel
theorem dX9_turns_162 : decode cX9_turns 162 = .ok (.iaload, 1) := by decide +kernel
theorem dX9_turns_163 : decode cX9_turns 163 = .ok (.invokestatic 50, 3) := by decide +kernel
theorem dX9_turns_166 : decode cX9_turns 166 = .ok (.iastore, 1) := by decide +kernel
theorem dX9_turns_167 : decode cX9_turns 167 = .ok (.aload_n 0, 1) := by decide +kernel
theorem dX9_turns_168 : decode cX9_turns 168 = .ok (.getfield 20, 3) := by decide +kernel
theorem dX9_turns_171 : decode cX9_turns 171 = .ok (.iconst 3, 1) := by decide +kernel
theorem dX9_turns_172 : decode cX9_turns 172 = .ok (.aload_n 0, 1) := by decide +kernel
theorem dX9_turns_173 : decode cX9_turns 173 = .ok (.getfield 20, 3) := by decide +kernel
theorem dX9_turns_176 : decode cX9_turns 176 = .ok (.iconst 2, 1) := by decide +kernel
theorem dX9_turns_177 : decode cX9_turns 177 = .ok (.iaload, 1) := by decide +kernel
theorem dX9_turns_178 : decode cX9_turns 178 = .ok (.iastore, 1) := by decide +kernel
theorem dX9_turns_179 : decode cX9_turns 179 = .ok (.aload_n 0, 1) := by decide +kernel
theorem dX9_turns_180 : decode cX9_turns 180 = .ok (.getfield 20, 3) := by decide +kernel
theorem dX9_turns_183 : decode cX9_turns 183 = .ok (.iconst 2, 1) := by decide +kernel
theorem dX9_turns_184 : decode cX9_turns 184 = .ok (.aload_n 0, 1) := by decide +kernel
theorem dX9_turns_185 : decode cX9_turns 185 = .ok (.getfield 20, 3) := by decide +kernel
theorem dX9_turns_188 : decode cX9_turns 188 = .ok (.iconst 1, 1) := by decide +kernel
theorem dX9_turns_189 : decode cX9_turns 189 = .ok (.iaload, 1) := by decide +kernel
theorem dX9_turns_190 : decode cX9_turns 190 = .ok (.invokestatic 50, 3) := by decide +kernel
theorem dX9_turns_193 : decode cX9_turns 193 = .ok (.iastore, 1) := by decide +kernel
theorem dX9_turns_194 : decode cX9_turns 194 = .ok (.aload_n 0, 1) := by decide +kernel
theorem dX9_turns_195 : decode cX9_turns 195 = .ok (.getfield 20, 3) := by decide +kernel
theorem dX9_turns_198 : decode cX9_turns 198 = .ok (.iconst 1, 1) := by decide +kernel
theorem dX9_turns_199 : decode cX9_turns 199 = .ok (.iload 5, 2) := by decide +kernel
theorem dX9_turns_201 : decode cX9_turns 201 = .ok (.iastore, 1) := by decide +kernel
theorem dX9_turns_202 : decode cX9_turns 202 = .ok (.aload_n 0, 1) := by decide +kernel
theorem dX9_turns_203 : decode cX9_turns 203 = .ok (.getfield 23, 3) := by decide +kernel
theorem dX9_turns_206 : decode cX9_turns 206 = .ok (.iconst 0, 1) := by decide +kernel
theorem dX9_turns_207 : decode cX9_turns 207 = .ok (.iaload, 1) := by decide +kernel
theorem dX9_turns_208 : decode cX9_turns 208 = .ok (.istore 6, 2) := by decide +kernel
theorem dX9_turns_210 : decode cX9_turns 210 = .ok (.aload_n 0, 1) := by decide +kernel
theorem dX9_turns_211 : decode cX9_turns 211 = .ok (.getfield 23, 3) := by decide +kernel
theorem dX9_turns_214 : decode cX9_turns 214 = .ok (.iconst 0, 1) := by decide +kernel
theorem dX9_turns_215 : decode cX9_turns 215 = .ok (.aload_n 0, 1) := by decide +kernel
theorem dX9_turns_216 : decode cX9_turns 216 = .ok (.getfield 23, 3) := by decide +kernel
theorem dX9_turns_219 : decode cX9_turns 219 = .ok (.iconst 3, 1) := by decide +kernel
theorem dX9_turns_220 : decode cX9_turns 220 = .ok (.iaload, 1) := by decide +kernel
theorem dX9_turns_221 : decode cX9_turns 221 = .ok (.iastore, 1) := by decide +kernel
theorem dX9_turns_222 : decode cX9_turns 222 = .ok (.aload_n 0, 1) := by decide +kernel
theorem dX9_turns_223 : decode cX9_turns 223 = .ok (.getfield 23, 3) := by decide +kernel
theorem dX9_turns_226 : decode cX9_turns 226 = .ok (.iconst 3, 1) := by decide +kernel
theorem dX9_turns_227 : decode cX9_turns 227 = .ok (.aload_n 0, 1) := by decide +kernel
theorem dX9_turns_228 : decode cX9_turns 228 = .ok (.getfield 23, 3) := by decide +kernel
theorem dX9_turns_231 : decode cX9_turns 231 = .ok (.iconst 2, 1) := by decide +kernel
theorem dX9_turns_232 : decode cX9_turns 232 = .ok (.iaload, 1) := by decide +kernel
theorem dX9_turns_233 : decode cX9_turns 233 = .ok (.iastore, 1) := by decide +kernel
theorem dX9_turns_234 : decode cX9_turns 234 = .ok (.aload_n 0, 1) := by decide +kernel
theorem dX9_turns_235 : decode cX9_turns 235 = .ok (.getfield 23, 3) := by decide +kernel
theorem dX9_turns_238 : decode cX9_turns 238 = .ok (.iconst 2, 1) := by decide +kernel
theorem dX9_turns_239 : decode cX9_turns 239 = .ok (.aload_n 0, 1) := by decide +kernel
theorem dX9_turns_240 : decode cX9_turns 240 = .ok (.getfield 23, 3) := by decide +kernel
theorem dX9_turns_243 : decode cX9_turns 243 = .ok (.iconst 1, 1) := by decide +kernel
theorem dX9_turns_244 : decode cX9_turns 244 = .ok (.iaload, 1) := by decide +kernel
theorem dX9_turns_245 : decode cX9_turns 245 = .ok (.iastore, 1) := by decide +kernel
theorem dX9_turns_246 : decode cX9_turns 246 = .ok (.aload_n 0, 1) := by decide +kernel
theorem dX9_turns_247 : decode cX9_turns 247 = .ok (.getfield 23, 3) := by decide +kernel
theorem dX9_turns_250 : decode cX9_turns 250 = .ok (.iconst 1, 1) := by decide +kernel
theorem dX9_turns_251 : decode cX9_turns 251 = .ok (.iload 6, 2) := by decide +kernel
theorem dX9_turns_253 : decode cX9_turns 253 = .ok (.iastore, 1) := by decide +kernel
theorem dX9_turns_254 : decode cX9_turns 254 = .ok (.iinc 4 1, 3) := by decide +kernel
theorem dX9_turns_257 : decode cX9_turns 257 = .ok (.goto (-121), 3) := by decide +kernel
theorem dX9_turns_260 : decode cX9_turns 260 = .ok (.return_, 1) := by decide +kernel
theorem dX9_profileOf_0 : decode cX9_profileOf 0 = .ok (.aload_n 0, 1) := by decide +kernel
theorem dX9_profileOf_1 : decode cX9_profileOf 1 = .ok (.iload_n 1, 1) := by decide +kernel
theorem dX9_profileOf_2 : decode cX9_profileOf 2 = .ok (.iload_n 2, 1) := by decide +kernel
theorem dX9_profileOf_3 : decode cX9_profileOf 3 = .ok (.invokevirtual 54, 3) := by decide +kernel
theorem dX9_profileOf_6 : decode cX9_profileOf 6 = .ok (.aload_n 0, 1) := by decide +kernel
theorem dX9_profileOf_7 : decode cX9_profileOf 7 = .ok (.getfield 20, 3) := by decide +kernel
theorem dX9_profileOf_10 : decode cX9_profileOf 10 = .ok (.iload_n 3, 1) := by decide +kernel
theorem dX9_profileOf_11 : decode cX9_profileOf 11 = .ok (.iaload, 1) := by decide +kernel
theorem dX9_profileOf_12 : decode cX9_profileOf 12 = .ok (.ireturn, 1) := by decide +kernel
theorem dX9_lineOf_0 : decode cX9_lineOf 0 = .ok (.aload_n 0, 1) := by decide +kernel
theorem dX9_lineOf_1 : decode cX9_lineOf 1 = .ok (.iload_n 1, 1) := by decide +kernel
theorem dX9_lineOf_2 : decode cX9_lineOf 2 = .ok (.iload_n 2, 1) := by decide +kernel
theorem dX9_lineOf_3 : decode cX9_lineOf 3 = .ok (.invokevirtual 54, 3) := by decide +kernel
theorem dX9_lineOf_6 : decode cX9_lineOf 6 = .ok (.aload_n 0, 1) := by decide +kernel
theorem dX9_lineOf_7 : decode cX9_lineOf 7 = .ok (.getfield 23, 3) := by decide +kernel
theorem dX9_lineOf_10 : decode cX9_lineOf 10 = .ok (.iload_n 3, 1) := by decide +kernel
theorem dX9_lineOf_11 : decode cX9_lineOf 11 = .ok (.iaload, 1) := by decide +kernel
theorem dX9_lineOf_12 : decode cX9_lineOf 12 = .ok (.ireturn, 1) := by decide +kernel
theorem dX9_behind_0 : decode cX9_behind 0 = .ok (.iload_n 1, 1) := by decide +kernel
theorem dX9_behind_1 : decode cX9_behind 1 = .ok (.aload_n 0, 1) := by decide +kernel
theorem dX9_behind_2 : decode cX9_behind 2 = .ok (.getfield 7, 3) := by decide +kernel
theorem dX9_behind_5 : decode cX9_behind 5 = .ok (.iconst 0, 1) := by decide +kernel
theorem dX9_behind_6 : decode cX9_behind 6 = .ok (.iaload, 1) := by decide +kernel
theorem dX9_behind_7 : decode cX9_behind 7 = .ok (.irem, 1) := by decide +kernel
theorem dX9_behind_8 : decode cX9_behind 8 = .ok (.iload_n 2, 1) := by decide +kernel
theorem dX9_behind_9 : decode cX9_behind 9 = .ok (.iconst 1, 1) := by decide +kernel
theorem dX9_behind_10 : decode cX9_behind 10 = .ok (.if_icmp .ne 7, 3) := by decide +kernel
theorem dX9_behind_13 : decode cX9_behind 13 = .ok (.iconst 1, 1) := by decide +kernel
theorem dX9_behind_14 : decode cX9_behind 14 = .ok (.goto 13, 3) := by decide +kernel
theorem dX9_behind_17 : decode cX9_behind 17 = .ok (.iload_n 2, 1) := by decide +kernel
theorem dX9_behind_18 : decode cX9_behind 18 = .ok (.iconst 3, 1) := by decide +kernel
theorem dX9_behind_19 : decode cX9_behind 19 = .ok (.if_icmp .ne 7, 3) := by decide +kernel
theorem dX9_behind_22 : decode cX9_behind 22 = .ok (.iconst (-1), 1) := by decide +kernel
theorem dX9_behind_23 : decode cX9_behind 23 = .ok (.goto 4, 3) := by decide +kernel
theorem dX9_behind_26 : decode cX9_behind 26 = .ok (.iconst 0, 1) := by decide +kernel
theorem dX9_behind_27 : decode cX9_behind 27 = .ok (.iadd, 1) := by decide +kernel
theorem dX9_behind_28 : decode cX9_behind 28 = .ok (.istore_n 3, 1) := by decide +kernel
theorem dX9_behind_29 : decode cX9_behind 29 = .ok (.iload_n 1, 1) := by decide +kernel
theorem dX9_behind_30 : decode cX9_behind 30 = .ok (.aload_n 0, 1) := by decide +kernel
theorem dX9_behind_31 : decode cX9_behind 31 = .ok (.getfield 7, 3) := by decide +kernel
theorem dX9_behind_34 : decode cX9_behind 34 = .ok (.iconst 0, 1) := by decide +kernel
theorem dX9_behind_35 : decode cX9_behind 35 = .ok (.iaload, 1) := by decide +kernel
theorem dX9_behind_36 : decode cX9_behind 36 = .ok (.idiv, 1) := by decide +kernel
theorem dX9_behind_37 : decode cX9_behind 37 = .ok (.iload_n 2, 1) := by decide +kernel
theorem dX9_behind_38 : decode cX9_behind 38 = .ok (.iconst 2, 1) := by decide +kernel
theorem dX9_behind_39 : decode cX9_behind 39 = .ok (.if_icmp .ne 7, 3) := by decide +kernel
theorem dX9_behind_42 : decode cX9_behind 42 = .ok (.iconst 1, 1) := by decide +kernel
theorem dX9_behind_43 : decode cX9_behind 43 = .ok (.goto 12, 3) := by decide +kernel
theorem dX9_behind_46 : decode cX9_behind 46 = .ok (.iload_n 2, 1) := by decide +kernel
theorem dX9_behind_47 : decode cX9_behind 47 = .ok (.ifCond .ne 7, 3) := by decide +kernel
theorem dX9_behind_50 : decode cX9_behind 50 = .ok (.iconst (-1), 1) := by decide +kernel
theorem dX9_behind_51 : decode cX9_behind 51 = .ok (.goto 4, 3) := by decide +kernel
theorem dX9_behind_54 : decode cX9_behind 54 = .ok (.iconst 0, 1) := by decide +kernel
theorem dX9_behind_55 : decode cX9_behind 55 = .ok (.iadd, 1) := by decide +kernel
theorem dX9_behind_56 : decode cX9_behind 56 = .ok (.istore 4, 2) := by decide +kernel
theorem dX9_behind_58 : decode cX9_behind 58 = .ok (.iload_n 3, 1) := by decide +kernel
theorem dX9_behind_59 : decode cX9_behind 59 = .ok (.iconst 0, 1) := by decide +kernel
theorem dX9_behind_60 : decode cX9_behind 60 = .ok (.aload_n 0, 1) := by decide +kernel
theorem dX9_behind_61 : decode cX9_behind 61 = .ok (.getfield 7, 3) := by decide +kernel
theorem dX9_behind_64 : decode cX9_behind 64 = .ok (.iconst 0, 1) := by decide +kernel
theorem dX9_behind_65 : decode cX9_behind 65 = .ok (.iaload, 1) := by decide +kernel
theorem dX9_behind_66 : decode cX9_behind 66 = .ok (.iconst 1, 1) := by decide +kernel
theorem dX9_behind_67 : decode cX9_behind 67 = .ok (.isub, 1) := by decide +kernel
theorem dX9_behind_68 : decode cX9_behind 68 = .ok (.invokestatic 38, 3) := by decide +kernel
theorem dX9_behind_71 : decode cX9_behind 71 = .ok (.ifCond .eq 34, 3) := by decide +kernel
theorem dX9_behind_74 : decode cX9_behind 74 = .ok (.iload 4, 2) := by decide +kernel
theorem dX9_behind_76 : decode cX9_behind 76 = .ok (.iconst 0, 1) := by decide +kernel
theorem dX9_behind_77 : decode cX9_behind 77 = .ok (.aload_n 0, 1) := by decide +kernel
theorem dX9_behind_78 : decode cX9_behind 78 = .ok (.getfield 7, 3) := by decide +kernel
theorem dX9_behind_81 : decode cX9_behind 81 = .ok (.iconst 1, 1) := by decide +kernel
theorem dX9_behind_82 : decode cX9_behind 82 = .ok (.iaload, 1) := by decide +kernel
theorem dX9_behind_83 : decode cX9_behind 83 = .ok (.iconst 1, 1) := by decide +kernel
theorem dX9_behind_84 : decode cX9_behind 84 = .ok (.isub, 1) := by decide +kernel
theorem dX9_behind_85 : decode cX9_behind 85 = .ok (.invokestatic 38, 3) := by decide +kernel
theorem dX9_behind_88 : decode cX9_behind 88 = .ok (.ifCond .eq 17, 3) := by decide +kernel
theorem dX9_behind_91 : decode cX9_behind 91 = .ok (.iload 4, 2) := by decide +kernel
theorem dX9_behind_93 : decode cX9_behind 93 = .ok (.aload_n 0, 1) := by decide +kernel
theorem dX9_behind_94 : decode cX9_behind 94 = .ok (.getfield 7, 3) := by decide +kernel
theorem dX9_behind_97 : decode cX9_behind 97 = .ok (.iconst 0, 1) := by decide +kernel
theorem dX9_behind_98 : decode cX9_behind 98 = .ok (.iaload, 1) := by decide +kernel
theorem dX9_behind_99 : decode cX9_behind 99 = .ok (.imul, 1) := by decide +kernel
theorem dX9_behind_100 : decode cX9_behind 100 = .ok (.iload_n 3, 1) := by decide +kernel
theorem dX9_behind_101 : decode cX9_behind 101 = .ok (.iadd, 1) := by decide +kernel
theorem dX9_behind_102 : decode cX9_behind 102 = .ok (.goto 4, 3) := by decide +kernel
theorem dX9_behind_105 : decode cX9_behind 105 = .ok (.iconst (-1), 1) := by decide +kernel
theorem dX9_behind_106 : decode cX9_behind 106 = .ok (.ireturn, 1) := by decide +kernel
theorem dX9_scrapAt_0 : decode cX9_scrapAt 0 = .ok (.iconst 0, 1) := by decide +kernel
theorem dX9_scrapAt_1 : decode cX9_scrapAt 1 = .ok (.istore_n 2, 1) := by decide +kernel
theorem dX9_scrapAt_2 : decode cX9_scrapAt 2 = .ok (.iload_n 2, 1) := by decide +kernel
theorem dX9_scrapAt_3 : decode cX9_scrapAt 3 = .ok (.aload_n 0, 1) := by decide +kernel
theorem dX9_scrapAt_4 : decode cX9_scrapAt 4 = .ok (.getfield 7, 3) := by decide +kernel
theorem dX9_scrapAt_7 : decode cX9_scrapAt 7 = .ok (.iconst 2, 1) := by decide +kernel
theorem dX9_scrapAt_8 : decode cX9_scrapAt 8 = .ok (.iaload, 1) := by decide +kernel
theorem dX9_scrapAt_9 : decode cX9_scrapAt 9 = .ok (.if_icmp .ge 24, 3) := by decide +kernel
theorem dX9_scrapAt_12 : decode cX9_scrapAt 12 = .ok (.aload_n 0, 1) := by decide +kernel
theorem dX9_scrapAt_13 : decode cX9_scrapAt 13 = .ok (.getfield 7, 3) := by decide +kernel
theorem dX9_scrapAt_16 : decode cX9_scrapAt 16 = .ok (.bipush 123, 2) := by decide +kernel
theorem dX9_scrapAt_18 : decode cX9_scrapAt 18 = .ok (.iload_n 2, 1) := by decide +kernel
theorem dX9_scrapAt_19 : decode cX9_scrapAt 19 = .ok (.iadd, 1) := by decide +kernel
theorem dX9_scrapAt_20 : decode cX9_scrapAt 20 = .ok (.iaload, 1) := by decide +kernel
theorem dX9_scrapAt_21 : decode cX9_scrapAt 21 = .ok (.iload_n 1, 1) := by decide +kernel
theorem dX9_scrapAt_22 : decode cX9_scrapAt 22 = .ok (.if_icmp .ne 5, 3) := by decide +kernel
theorem dX9_scrapAt_25 : decode cX9_scrapAt 25 = .ok (.iload_n 2, 1) := by decide +kernel
theorem dX9_scrapAt_26 : decode cX9_scrapAt 26 = .ok (.ireturn, 1) := by decide +kernel
theorem dX9_scrapAt_27 : decode cX9_scrapAt 27 = .ok (.iinc 2 1, 3) := by decide +kernel
theorem dX9_scrapAt_30 : decode cX9_scrapAt 30 = .ok (.goto (-28), 3) := by decide +kernel
theorem dX9_scrapAt_33 : decode cX9_scrapAt 33 = .ok (.iconst (-1), 1) := by decide +kernel
theorem dX9_scrapAt_34 : decode cX9_scrapAt 34 = .ok (.ireturn, 1) := by decide +kernel
theorem dX9_reasonOf_0 : decode cX9_reasonOf 0 = .ok (.aload_n 0, 1) := by decide +kernel
theorem dX9_reasonOf_1 : decode cX9_reasonOf 1 = .ok (.iload_n 1, 1) := by decide +kernel
theorem dX9_reasonOf_2 : decode cX9_reasonOf 2 = .ok (.iload_n 3, 1) := by decide +kernel
theorem dX9_reasonOf_3 : decode cX9_reasonOf 3 = .ok (.iload 4, 2) := by decide +kernel
theorem dX9_reasonOf_5 : decode cX9_reasonOf 5 = .ok (.invokevirtual 58, 3) := by decide +kernel
theorem dX9_reasonOf_8 : decode cX9_reasonOf 8 = .ok (.istore 5, 2) := by decide +kernel
theorem dX9_reasonOf_10 : decode cX9_reasonOf 10 = .ok (.aload_n 0, 1) := by decide +kernel
theorem dX9_reasonOf_11 : decode cX9_reasonOf 11 = .ok (.iload_n 2, 1) := by decide +kernel
theorem dX9_reasonOf_12 : decode cX9_reasonOf 12 = .ok (.iload 4, 2) := by decide +kernel
theorem dX9_reasonOf_14 : decode cX9_reasonOf 14 = .ok (.invokevirtual 62, 3) := by decide +kernel
theorem dX9_reasonOf_17 : decode cX9_reasonOf 17 = .ok (.istore 6, 2) := by decide +kernel
theorem dX9_reasonOf_19 : decode cX9_reasonOf 19 = .ok (.iload 6, 2) := by decide +kernel
theorem dX9_reasonOf_21 : decode cX9_reasonOf 21 = .ok (.iconst (-1), 1) := by decide +kernel
theorem dX9_reasonOf_22 : decode cX9_reasonOf 22 = .ok (.if_icmp .ne 15, 3) := by decide +kernel
theorem dX9_reasonOf_25 : decode cX9_reasonOf 25 = .ok (.iload 5, 2) := by decide +kernel
theorem dX9_reasonOf_27 : decode cX9_reasonOf 27 = .ok (.iconst (-1), 1) := by decide +kernel
theorem dX9_reasonOf_28 : decode cX9_reasonOf 28 = .ok (.if_icmp .ne 7, 3) := by decide +kernel
theorem dX9_reasonOf_31 : decode cX9_reasonOf 31 = .ok (.iconst 0, 1) := by decide +kernel
theorem dX9_reasonOf_32 : decode cX9_reasonOf 32 = .ok (.goto 4, 3) := by decide +kernel
theorem dX9_reasonOf_35 : decode cX9_reasonOf 35 = .ok (.iconst 4, 1) := by decide +kernel
theorem dX9_reasonOf_36 : decode cX9_reasonOf 36 = .ok (.ireturn, 1) := by decide +kernel
theorem dX9_reasonOf_37 : decode cX9_reasonOf 37 = .ok (.aload_n 0, 1) := by decide +kernel
theorem dX9_reasonOf_38 : decode cX9_reasonOf 38 = .ok (.iload 6, 2) := by decide +kernel
theorem dX9_reasonOf_40 : decode cX9_reasonOf 40 = .ok (.invokevirtual 66, 3) := by decide +kernel
theorem dX9_reasonOf_43 : decode cX9_reasonOf 43 = .ok (.istore 7, 2) := by decide +kernel
theorem dX9_reasonOf_45 : decode cX9_reasonOf 45 = .ok (.iload 7, 2) := by decide +kernel
theorem dX9_reasonOf_47 : decode cX9_reasonOf 47 = .ok (.iconst (-1), 1) := by decide +kernel
theorem dX9_reasonOf_48 : decode cX9_reasonOf 48 = .ok (.if_icmp .eq 9, 3) := by decide +kernel
theorem dX9_reasonOf_51 : decode cX9_reasonOf 51 = .ok (.iload 7, 2) := by decide +kernel
theorem dX9_reasonOf_53 : decode cX9_reasonOf 53 = .ok (.iload_n 1, 1) := by decide +kernel
theorem dX9_reasonOf_54 : decode cX9_reasonOf 54 = .ok (.if_icmp .ne 5, 3) := by decide +kernel
theorem dX9_reasonOf_57 : decode cX9_reasonOf 57 = .ok (.iconst (-1), 1) := by decide +kernel
theorem dX9_reasonOf_58 : decode cX9_reasonOf 58 = .ok (.ireturn, 1) := by decide +kernel
theorem dX9_reasonOf_59 : decode cX9_reasonOf 59 = .ok (.aload_n 0, 1) := by decide +kernel
theorem dX9_reasonOf_60 : decode cX9_reasonOf 60 = .ok (.getfield 23, 3) := by decide +kernel
theorem dX9_reasonOf_63 : decode cX9_reasonOf 63 = .ok (.iload 4, 2) := by decide +kernel
theorem dX9_reasonOf_65 : decode cX9_reasonOf 65 = .ok (.iaload, 1) := by decide +kernel
theorem dX9_reasonOf_66 : decode cX9_reasonOf 66 = .ok (.istore 8, 2) := by decide +kernel
theorem dX9_reasonOf_68 : decode cX9_reasonOf 68 = .ok (.iload 4, 2) := by decide +kernel
theorem dX9_reasonOf_70 : decode cX9_reasonOf 70 = .ok (.iconst 2, 1) := by decide +kernel
theorem dX9_reasonOf_71 : decode cX9_reasonOf 71 = .ok (.iadd, 1) := by decide +kernel
theorem dX9_reasonOf_72 : decode cX9_reasonOf 72 = .ok (.iconst 4, 1) := by decide +kernel
theorem dX9_reasonOf_73 : decode cX9_reasonOf 73 = .ok (.irem, 1) := by decide +kernel
theorem dX9_reasonOf_74 : decode cX9_reasonOf 74 = .ok (.istore 9, 2) := by decide +kernel
theorem dX9_reasonOf_76 : decode cX9_reasonOf 76 = .ok (.aload_n 0, 1) := by decide +kernel
theorem dX9_reasonOf_77 : decode cX9_reasonOf 77 = .ok (.iload 7, 2) := by decide +kernel
theorem dX9_reasonOf_79 : decode cX9_reasonOf 79 = .ok (.aload_n 0, 1) := by decide +kernel
theorem dX9_reasonOf_80 : decode cX9_reasonOf 80 = .ok (.getfield 7, 3) := by decide +kernel
theorem dX9_reasonOf_83 : decode cX9_reasonOf 83 = .ok (.bipush 111, 2) := by decide +kernel
theorem dX9_reasonOf_85 : decode cX9_reasonOf 85 = .ok (.iload 7, 2) := by decide +kernel
theorem dX9_reasonOf_87 : decode cX9_reasonOf 87 = .ok (.iadd, 1) := by decide +kernel
theorem dX9_reasonOf_88 : decode cX9_reasonOf 88 = .ok (.iaload, 1) := by decide +kernel
theorem dX9_reasonOf_89 : decode cX9_reasonOf 89 = .ok (.iload 9, 2) := by decide +kernel
theorem dX9_reasonOf_91 : decode cX9_reasonOf 91 = .ok (.invokevirtual 58, 3) := by decide +kernel
theorem dX9_reasonOf_94 : decode cX9_reasonOf 94 = .ok (.istore 10, 2) := by decide +kernel
theorem dX9_reasonOf_96 : decode cX9_reasonOf 96 = .ok (.iload 5, 2) := by decide +kernel
theorem dX9_reasonOf_98 : decode cX9_reasonOf 98 = .ok (.iconst (-1), 1) := by decide +kernel
theorem dX9_reasonOf_99 : decode cX9_reasonOf 99 = .ok (.if_icmp .eq 9, 3) := by decide +kernel
theorem dX9_reasonOf_102 : decode cX9_reasonOf 102 = .ok (.iload 10, 2) := by decide +kernel
theorem dX9_reasonOf_104 : decode cX9_reasonOf 104 = .ok (.iconst (-1), 1) := by decide +kernel
theorem dX9_reasonOf_105 : decode cX9_reasonOf 105 = .ok (.if_icmp .ne 5, 3) := by decide +kernel
theorem dX9_reasonOf_108 : decode cX9_reasonOf 108 = .ok (.iconst 1, 1) := by decide +kernel
theorem dX9_reasonOf_109 : decode cX9_reasonOf 109 = .ok (.ireturn, 1) := by decide +kernel
theorem dX9_reasonOf_110 : decode cX9_reasonOf 110 = .ok (.iload 5, 2) := by decide +kernel
theorem dX9_reasonOf_112 : decode cX9_reasonOf 112 = .ok (.iload 10, 2) := by decide +kernel
theorem dX9_reasonOf_114 : decode cX9_reasonOf 114 = .ok (.iadd, 1) := by decide +kernel
theorem dX9_reasonOf_115 : decode cX9_reasonOf 115 = .ok (.sipush 999, 3) := by decide +kernel
theorem dX9_reasonOf_118 : decode cX9_reasonOf 118 = .ok (.if_icmp .eq 7, 3) := by decide +kernel
theorem dX9_reasonOf_121 : decode cX9_reasonOf 121 = .ok (.iconst 2, 1) := by decide +kernel
theorem dX9_reasonOf_122 : decode cX9_reasonOf 122 = .ok (.goto 20, 3) := by decide +kernel
theorem dX9_reasonOf_125 : decode cX9_reasonOf 125 = .ok (.iload 8, 2) := by decide +kernel
theorem dX9_reasonOf_127 : decode cX9_reasonOf 127 = .ok (.aload_n 0, 1) := by decide +kernel
theorem dX9_reasonOf_128 : decode cX9_reasonOf 128 = .ok (.getfield 23, 3) := by decide +kernel
theorem dX9_reasonOf_131 : decode cX9_reasonOf 131 = .ok (.iload 9, 2) := by decide +kernel
theorem dX9_reasonOf_133 : decode cX9_reasonOf 133 = .ok (.iaload, 1) := by decide +kernel
theorem dX9_reasonOf_134 : decode cX9_reasonOf 134 = .ok (.if_icmp .eq 7, 3) := by decide +kernel
theorem dX9_reasonOf_137 : decode cX9_reasonOf 137 = .ok (.iconst 3, 1) := by decide +kernel
theorem dX9_reasonOf_138 : decode cX9_reasonOf 138 = .ok (.goto 4, 3) := by decide +kernel
theorem dX9_reasonOf_141 : decode cX9_reasonOf 141 = .ok (.iconst 0, 1) := by decide +kernel
theorem dX9_reasonOf_142 : decode cX9_reasonOf 142 = .ok (.ireturn, 1) := by decide +kernel
theorem dX9_fits_0 : decode cX9_fits 0 = .ok (.iconst 0, 1) := by decide +kernel
theorem dX9_fits_1 : decode cX9_fits 1 = .ok (.istore 5, 2) := by decide +kernel
theorem dX9_fits_3 : decode cX9_fits 3 = .ok (.iconst 0, 1) := by decide +kernel
theorem dX9_fits_4 : decode cX9_fits 4 = .ok (.istore 6, 2) := by decide +kernel
theorem dX9_fits_6 : decode cX9_fits 6 = .ok (.iload 6, 2) := by decide +kernel
theorem dX9_fits_8 : decode cX9_fits 8 = .ok (.iconst 4, 1) := by decide +kernel
theorem dX9_fits_9 : decode cX9_fits 9 = .ok (.if_icmp .ge 51, 3) := by decide +kernel
theorem dX9_fits_12 : decode cX9_fits 12 = .ok (.aload_n 0, 1) := by decide +kernel
theorem dX9_fits_13 : decode cX9_fits 13 = .ok (.iload_n 1, 1) := by decide +kernel
theorem dX9_fits_14 : decode cX9_fits 14 = .ok (.iload_n 2, 1) := by decide +kernel
theorem dX9_fits_15 : decode cX9_fits 15 = .ok (.iload_n 3, 1) := by decide +kernel
theorem dX9_fits_16 : decode cX9_fits 16 = .ok (.iload 6, 2) := by decide +kernel
theorem dX9_fits_18 : decode cX9_fits 18 = .ok (.invokevirtual 69, 3) := by decide +kernel
theorem dX9_fits_21 : decode cX9_fits 21 = .ok (.istore 7, 2) := by decide +kernel
theorem dX9_fits_23 : decode cX9_fits 23 = .ok (.iload 5, 2) := by decide +kernel
theorem dX9_fits_25 : decode cX9_fits 25 = .ok (.iload 7, 2) := by decide +kernel
theorem dX9_fits_27 : decode cX9_fits 27 = .ok (.iconst (-1), 1) := by decide +kernel
theorem dX9_fits_28 : decode cX9_fits 28 = .ok (.if_icmp .eq 22, 3) := by decide +kernel
theorem dX9_fits_31 : decode cX9_fits 31 = .ok (.iload 7, 2) := by decide +kernel
theorem dX9_fits_33 : decode cX9_fits 33 = .ok (.ifCond .ne 7, 3) := by decide +kernel
theorem dX9_fits_36 : decode cX9_fits 36 = .ok (.iconst 1, 1) := by decide +kernel
theorem dX9_fits_37 : decode cX9_fits 37 = .ok (.goto 4, 3) := by decide +kernel
theorem dX9_fits_40 : decode cX9_fits 40 = .ok (.iconst 0, 1) := by decide +kernel
theorem dX9_fits_41 : decode cX9_fits 41 = .ok (.iload 4, 2) := by decide +kernel
theorem dX9_fits_43 : decode cX9_fits 43 = .ok (.if_icmp .ne 7, 3) := by decide +kernel
theorem dX9_fits_46 : decode cX9_fits 46 = .ok (.iconst 1, 1) := by decide +kernel
theorem dX9_fits_47 : decode cX9_fits 47 = .ok (.goto 4, 3) := by decide +kernel
theorem dX9_fits_50 : decode cX9_fits 50 = .ok (.iconst 0, 1) := by decide +kernel
theorem dX9_fits_51 : decode cX9_fits 51 = .ok (.iadd, 1) := by decide +kernel
theorem dX9_fits_52 : decode cX9_fits 52 = .ok (.istore 5, 2) := by decide +kernel
theorem dX9_fits_54 : decode cX9_fits 54 = .ok (.iinc 6 1, 3) := by decide +kernel
theorem dX9_fits_57 : decode cX9_fits 57 = .ok (.goto (-51), 3) := by decide +kernel
theorem dX9_fits_60 : decode cX9_fits 60 = .ok (.iload 5, 2) := by decide +kernel
theorem dX9_fits_62 : decode cX9_fits 62 = .ok (.ireturn, 1) := by decide +kernel
theorem dX9_seams_0 : decode cX9_seams 0 = .ok (.iconst 0, 1) := by decide +kernel
theorem dX9_seams_1 : decode cX9_seams 1 = .ok (.istore_n 3, 1) := by decide +kernel
theorem dX9_seams_2 : decode cX9_seams 2 = .ok (.iconst 0, 1) := by decide +kernel
theorem dX9_seams_3 : decode cX9_seams 3 = .ok (.istore 4, 2) := by decide +kernel
theorem dX9_seams_5 : decode cX9_seams 5 = .ok (.iload 4, 2) := by decide +kernel
theorem dX9_seams_7 : decode cX9_seams 7 = .ok (.iconst 4, 1) := by decide +kernel
theorem dX9_seams_8 : decode cX9_seams 8 = .ok (.if_icmp .ge 56, 3) := by decide +kernel
theorem dX9_seams_11 : decode cX9_seams 11 = .ok (.aload_n 0, 1) := by decide +kernel
theorem dX9_seams_12 : decode cX9_seams 12 = .ok (.iload_n 2, 1) := by decide +kernel
theorem dX9_seams_13 : decode cX9_seams 13 = .ok (.iload 4, 2) := by decide +kernel
theorem dX9_seams_15 : decode cX9_seams 15 = .ok (.invokevirtual 62, 3) := by decide +kernel
theorem dX9_seams_18 : decode cX9_seams 18 = .ok (.istore 5, 2) := by decide +kernel
theorem dX9_seams_20 : decode cX9_seams 20 = .ok (.iload 5, 2) := by decide +kernel
theorem dX9_seams_22 : decode cX9_seams 22 = .ok (.iconst (-1), 1) := by decide +kernel
theorem dX9_seams_23 : decode cX9_seams 23 = .ok (.if_icmp .ne 7, 3) := by decide +kernel
theorem dX9_seams_26 : decode cX9_seams 26 = .ok (.iconst (-1), 1) := by decide +kernel
theorem dX9_seams_27 : decode cX9_seams 27 = .ok (.goto 9, 3) := by decide +kernel
theorem dX9_seams_30 : decode cX9_seams 30 = .ok (.aload_n 0, 1) := by decide +kernel
theorem dX9_seams_31 : decode cX9_seams 31 = .ok (.iload 5, 2) := by decide +kernel
theorem dX9_seams_33 : decode cX9_seams 33 = .ok (.invokevirtual 66, 3) := by decide +kernel
theorem dX9_seams_36 : decode cX9_seams 36 = .ok (.istore 6, 2) := by decide +kernel
theorem dX9_seams_38 : decode cX9_seams 38 = .ok (.iload_n 3, 1) := by decide +kernel
theorem dX9_seams_39 : decode cX9_seams 39 = .ok (.iload 6, 2) := by decide +kernel
theorem dX9_seams_41 : decode cX9_seams 41 = .ok (.iconst (-1), 1) := by decide +kernel
theorem dX9_seams_42 : decode cX9_seams 42 = .ok (.if_icmp .eq 9, 3) := by decide +kernel
theorem dX9_seams_45 : decode cX9_seams 45 = .ok (.iload 6, 2) := by decide +kernel
theorem dX9_seams_47 : decode cX9_seams 47 = .ok (.iload_n 1, 1) := by decide +kernel
theorem dX9_seams_48 : decode cX9_seams 48 = .ok (.if_icmp .ne 7, 3) := by decide +kernel
theorem dX9_seams_51 : decode cX9_seams 51 = .ok (.iconst 0, 1) := by decide +kernel
theorem dX9_seams_52 : decode cX9_seams 52 = .ok (.goto 4, 3) := by decide +kernel
theorem dX9_seams_55 : decode cX9_seams 55 = .ok (.iconst 1, 1) := by decide +kernel
theorem dX9_seams_56 : decode cX9_seams 56 = .ok (.iadd, 1) := by decide +kernel
theorem dX9_seams_57 : decode cX9_seams 57 = .ok (.istore_n 3, 1) := by decide +kernel
theorem dX9_seams_58 : decode cX9_seams 58 = .ok (.iinc 4 1, 3) := by decide +kernel
theorem dX9_seams_61 : decode cX9_seams 61 = .ok (.goto (-56), 3) := by decide +kernel
theorem dX9_seams_64 : decode cX9_seams 64 = .ok (.iload_n 3, 1) := by decide +kernel
theorem dX9_seams_65 : decode cX9_seams 65 = .ok (.ireturn, 1) := by decide +kernel
theorem dX9_isOn_0 : decode cX9_isOn 0 = .ok (.aload_n 0, 1) := by decide +kernel
theorem dX9_isOn_1 : decode cX9_isOn 1 = .ok (.getfield 7, 3) := by decide +kernel
theorem dX9_isOn_4 : decode cX9_isOn 4 = .ok (.bipush 123, 2) := by decide +kernel
theorem dX9_isOn_6 : decode cX9_isOn 6 = .ok (.iload_n 1, 1) := by decide +kernel
theorem dX9_isOn_7 : decode cX9_isOn 7 = .ok (.iadd, 1) := by decide +kernel
theorem dX9_isOn_8 : decode cX9_isOn 8 = .ok (.iaload, 1) := by decide +kernel
theorem dX9_isOn_9 : decode cX9_isOn 9 = .ok (.iconst (-1), 1) := by decide +kernel
theorem dX9_isOn_10 : decode cX9_isOn 10 = .ok (.if_icmp .eq 7, 3) := by decide +kernel
theorem dX9_isOn_13 : decode cX9_isOn 13 = .ok (.iconst 1, 1) := by decide +kernel
theorem dX9_isOn_14 : decode cX9_isOn 14 = .ok (.goto 4, 3) := by decide +kernel
theorem dX9_isOn_17 : decode cX9_isOn 17 = .ok (.iconst 0, 1) := by decide +kernel
theorem dX9_isOn_18 : decode cX9_isOn 18 = .ok (.ireturn, 1) := by decide +kernel
theorem dX9_reset_0 : decode cX9_reset 0 = .ok (.iload_n 1, 1) := by decide +kernel
theorem dX9_reset_1 : decode cX9_reset 1 = .ok (.iconst 1, 1) := by decide +kernel
theorem dX9_reset_2 : decode cX9_reset 2 = .ok (.bipush 6, 2) := by decide +kernel
theorem dX9_reset_4 : decode cX9_reset 4 = .ok (.invokestatic 38, 3) := by decide +kernel
theorem dX9_reset_7 : decode cX9_reset 7 = .ok (.ifCond .eq 13, 3) := by decide +kernel
theorem dX9_reset_10 : decode cX9_reset 10 = .ok (.iload_n 2, 1) := by decide +kernel
theorem dX9_reset_11 : decode cX9_reset 11 = .ok (.iconst 1, 1) := by decide +kernel
theorem dX9_reset_12 : decode cX9_reset 12 = .ok (.bipush 6, 2) := by decide +kernel
theorem dX9_reset_14 : decode cX9_reset 14 = .ok (.invokestatic 38, 3) := by decide +kernel
theorem dX9_reset_17 : decode cX9_reset 17 = .ok (.ifCond .ne 7, 3) := by decide +kernel
theorem dX9_reset_20 : decode cX9_reset 20 = .ok (.sipush (-1001), 3) := by decide +kernel
theorem dX9_reset_23 : decode cX9_reset 23 = .ok (.ireturn, 1) := by decide +kernel
theorem dX9_reset_24 : decode cX9_reset 24 = .ok (.aload_n 0, 1) := by decide +kernel
theorem dX9_reset_25 : decode cX9_reset 25 = .ok (.invokevirtual 73, 3) := by decide +kernel
theorem dX9_reset_28 : decode cX9_reset 28 = .ok (.iconst 0, 1) := by decide +kernel
theorem dX9_reset_29 : decode cX9_reset 29 = .ok (.istore_n 3, 1) := by decide +kernel
theorem dX9_reset_30 : decode cX9_reset 30 = .ok (.iconst 0, 1) := by decide +kernel
theorem dX9_reset_31 : decode cX9_reset 31 = .ok (.istore 4, 2) := by decide +kernel
theorem dX9_reset_33 : decode cX9_reset 33 = .ok (.iload 4, 2) := by decide +kernel
theorem dX9_reset_35 : decode cX9_reset 35 = .ok (.aload_n 0, 1) := by decide +kernel
theorem dX9_reset_36 : decode cX9_reset 36 = .ok (.getfield 7, 3) := by decide +kernel
theorem dX9_reset_39 : decode cX9_reset 39 = .ok (.iconst 2, 1) := by decide +kernel
theorem dX9_reset_40 : decode cX9_reset 40 = .ok (.iaload, 1) := by decide +kernel
theorem dX9_reset_41 : decode cX9_reset 41 = .ok (.if_icmp .ge 48, 3) := by decide +kernel
theorem dX9_reset_44 : decode cX9_reset 44 = .ok (.iload_n 3, 1) := by decide +kernel
theorem dX9_reset_45 : decode cX9_reset 45 = .ok (.aload_n 0, 1) := by decide +kernel
theorem dX9_reset_46 : decode cX9_reset 46 = .ok (.iload 4, 2) := by decide +kernel
theorem dX9_reset_48 : decode cX9_reset 48 = .ok (.invokevirtual 76, 3) := by decide +kernel
theorem dX9_reset_51 : decode cX9_reset 51 = .ok (.ifCond .eq 7, 3) := by decide +kernel
theorem dX9_reset_54 : decode cX9_reset 54 = .ok (.iconst 1, 1) := by decide +kernel
theorem dX9_reset_55 : decode cX9_reset 55 = .ok (.goto 4, 3) := by decide +kernel
theorem dX9_reset_58 : decode cX9_reset 58 = .ok (.iconst 0, 1) := by decide +kernel
theorem dX9_reset_59 : decode cX9_reset 59 = .ok (.iadd, 1) := by decide +kernel
theorem dX9_reset_60 : decode cX9_reset 60 = .ok (.istore_n 3, 1) := by decide +kernel
theorem dX9_reset_61 : decode cX9_reset 61 = .ok (.aload_n 0, 1) := by decide +kernel
theorem dX9_reset_62 : decode cX9_reset 62 = .ok (.getfield 7, 3) := by decide +kernel
theorem dX9_reset_65 : decode cX9_reset 65 = .ok (.bipush 123, 2) := by decide +kernel
theorem dX9_reset_67 : decode cX9_reset 67 = .ok (.iload 4, 2) := by decide +kernel
theorem dX9_reset_69 : decode cX9_reset 69 = .ok (.iadd, 1) := by decide +kernel
theorem dX9_reset_70 : decode cX9_reset 70 = .ok (.iconst (-1), 1) := by decide +kernel
theorem dX9_reset_71 : decode cX9_reset 71 = .ok (.iastore, 1) := by decide +kernel
theorem dX9_reset_72 : decode cX9_reset 72 = .ok (.aload_n 0, 1) := by decide +kernel
theorem dX9_reset_73 : decode cX9_reset 73 = .ok (.getfield 7, 3) := by decide +kernel
theorem dX9_reset_76 : decode cX9_reset 76 = .ok (.bipush 111, 2) := by decide +kernel
theorem dX9_reset_78 : decode cX9_reset 78 = .ok (.iload 4, 2) := by decide +kernel
theorem dX9_reset_80 : decode cX9_reset 80 = .ok (.iadd, 1) := by decide +kernel
theorem dX9_reset_81 : decode cX9_reset 81 = .ok (.iconst 0, 1) := by decide +kernel
theorem dX9_reset_82 : decode cX9_reset 82 = .ok (.iastore, 1) := by decide +kernel
theorem dX9_reset_83 : decode cX9_reset 83 = .ok (.iinc 4 1, 3) := by decide +kernel
theorem dX9_reset_86 : decode cX9_reset 86 = .ok (.goto (-53), 3) := by decide +kernel
theorem dX9_reset_89 : decode cX9_reset 89 = .ok (.aload_n 0, 1) := by decide +kernel
theorem dX9_reset_90 : decode cX9_reset 90 = .ok (.getfield 7, 3) := by decide +kernel
theorem dX9_reset_93 : decode cX9_reset 93 = .ok (.iconst 0, 1) := by decide +kernel
theorem dX9_reset_94 : decode cX9_reset 94 = .ok (.iload_n 1, 1) := by decide +kernel
theorem dX9_reset_95 : decode cX9_reset 95 = .ok (.iastore, 1) := by decide +kernel
theorem dX9_reset_96 : decode cX9_reset 96 = .ok (.aload_n 0, 1) := by decide +kernel
theorem dX9_reset_97 : decode cX9_reset 97 = .ok (.getfield 7, 3) := by decide +kernel
theorem dX9_reset_100 : decode cX9_reset 100 = .ok (.iconst 1, 1) := by decide +kernel
theorem dX9_reset_101 : decode cX9_reset 101 = .ok (.iload_n 2, 1) := by decide +kernel
theorem dX9_reset_102 : decode cX9_reset 102 = .ok (.iastore, 1) := by decide +kernel
theorem dX9_reset_103 : decode cX9_reset 103 = .ok (.iload_n 3, 1) := by decide +kernel
theorem dX9_reset_104 : decode cX9_reset 104 = .ok (.ireturn, 1) := by decide +kernel
theorem dX9_adds_0 : decode cX9_adds 0 = .ok (.aload_n 0, 1) := by decide +kernel
theorem dX9_adds_1 : decode cX9_adds 1 = .ok (.getfield 7, 3) := by decide +kernel
theorem dX9_adds_4 : decode cX9_adds 4 = .ok (.iconst 2, 1) := by decide +kernel
theorem dX9_adds_5 : decode cX9_adds 5 = .ok (.iaload, 1) := by decide +kernel
theorem dX9_adds_6 : decode cX9_adds 6 = .ok (.bipush 12, 2) := by decide +kernel
theorem dX9_adds_8 : decode cX9_adds 8 = .ok (.if_icmp .ne 7, 3) := by decide +kernel
theorem dX9_adds_11 : decode cX9_adds 11 = .ok (.sipush (-1003), 3) := by decide +kernel
theorem dX9_adds_14 : decode cX9_adds 14 = .ok (.ireturn, 1) := by decide +kernel
theorem dX9_adds_15 : decode cX9_adds 15 = .ok (.aload_n 0, 1) := by decide +kernel
theorem dX9_adds_16 : decode cX9_adds 16 = .ok (.invokevirtual 73, 3) := by decide +kernel
theorem dX9_adds_19 : decode cX9_adds 19 = .ok (.aload_n 0, 1) := by decide +kernel
theorem dX9_adds_20 : decode cX9_adds 20 = .ok (.getfield 7, 3) := by decide +kernel
theorem dX9_adds_23 : decode cX9_adds 23 = .ok (.iconst 2, 1) := by decide +kernel
theorem dX9_adds_24 : decode cX9_adds 24 = .ok (.iaload, 1) := by decide +kernel
theorem dX9_adds_25 : decode cX9_adds 25 = .ok (.istore_n 1, 1) := by decide +kernel
theorem dX9_adds_26 : decode cX9_adds 26 = .ok (.iconst 0, 1) := by decide +kernel
theorem dX9_adds_27 : decode cX9_adds 27 = .ok (.istore_n 2, 1) := by decide +kernel
theorem dX9_adds_28 : decode cX9_adds 28 = .ok (.iload_n 2, 1) := by decide +kernel
theorem dX9_adds_29 : decode cX9_adds 29 = .ok (.iconst 4, 1) := by decide +kernel
theorem dX9_adds_30 : decode cX9_adds 30 = .ok (.if_icmp .ge 48, 3) := by decide +kernel
theorem dX9_adds_33 : decode cX9_adds 33 = .ok (.aload_n 0, 1) := by decide +kernel
theorem dX9_adds_34 : decode cX9_adds 34 = .ok (.getfield 7, 3) := by decide +kernel
theorem dX9_adds_37 : decode cX9_adds 37 = .ok (.iconst 3, 1) := by decide +kernel
theorem dX9_adds_38 : decode cX9_adds 38 = .ok (.iconst 4, 1) := by decide +kernel
theorem dX9_adds_39 : decode cX9_adds 39 = .ok (.iload_n 1, 1) := by decide +kernel
theorem dX9_adds_40 : decode cX9_adds 40 = .ok (.imul, 1) := by decide +kernel
theorem dX9_adds_41 : decode cX9_adds 41 = .ok (.iadd, 1) := by decide +kernel
theorem dX9_adds_42 : decode cX9_adds 42 = .ok (.iload_n 2, 1) := by decide +kernel
theorem dX9_adds_43 : decode cX9_adds 43 = .ok (.iadd, 1) := by decide +kernel
theorem dX9_adds_44 : decode cX9_adds 44 = .ok (.aload_n 0, 1) := by decide +kernel
theorem dX9_adds_45 : decode cX9_adds 45 = .ok (.getfield 26, 3) := by decide +kernel
theorem dX9_adds_48 : decode cX9_adds 48 = .ok (.iload_n 2, 1) := by decide +kernel
theorem dX9_adds_49 : decode cX9_adds 49 = .ok (.iaload, 1) := by decide +kernel
theorem dX9_adds_50 : decode cX9_adds 50 = .ok (.iastore, 1) := by decide +kernel
theorem dX9_adds_51 : decode cX9_adds 51 = .ok (.aload_n 0, 1) := by decide +kernel
theorem dX9_adds_52 : decode cX9_adds 52 = .ok (.getfield 7, 3) := by decide +kernel
theorem dX9_adds_55 : decode cX9_adds 55 = .ok (.bipush 51, 2) := by decide +kernel
theorem dX9_adds_57 : decode cX9_adds 57 = .ok (.iconst 4, 1) := by decide +kernel
theorem dX9_adds_58 : decode cX9_adds 58 = .ok (.iload_n 1, 1) := by decide +kernel
theorem dX9_adds_59 : decode cX9_adds 59 = .ok (.imul, 1) := by decide +kernel
theorem dX9_adds_60 : decode cX9_adds 60 = .ok (.iadd, 1) := by decide +kernel
theorem dX9_adds_61 : decode cX9_adds 61 = .ok (.iload_n 2, 1) := by decide +kernel
theorem dX9_adds_62 : decode cX9_adds 62 = .ok (.iadd, 1) := by decide +kernel
theorem dX9_adds_63 : decode cX9_adds 63 = .ok (.aload_n 0, 1) := by decide +kernel
theorem dX9_adds_64 : decode cX9_adds 64 = .ok (.getfield 26, 3) := by decide +kernel
theorem dX9_adds_67 : decode cX9_adds 67 = .ok (.iconst 4, 1) := by decide +kernel
theorem dX9_adds_68 : decode cX9_adds 68 = .ok (.iload_n 2, 1) := by decide +kernel
theorem dX9_adds_69 : decode cX9_adds 69 = .ok (.iadd, 1) := by decide +kernel
theorem dX9_adds_70 : decode cX9_adds 70 = .ok (.iaload, 1) := by decide +kernel
theorem dX9_adds_71 : decode cX9_adds 71 = .ok (.iastore, 1) := by decide +kernel
theorem dX9_adds_72 : decode cX9_adds 72 = .ok (.iinc 2 1, 3) := by decide +kernel
theorem dX9_adds_75 : decode cX9_adds 75 = .ok (.goto (-47), 3) := by decide +kernel
theorem dX9_adds_78 : decode cX9_adds 78 = .ok (.aload_n 0, 1) := by decide +kernel
theorem dX9_adds_79 : decode cX9_adds 79 = .ok (.getfield 7, 3) := by decide +kernel
theorem dX9_adds_82 : decode cX9_adds 82 = .ok (.bipush 99, 2) := by decide +kernel
theorem dX9_adds_84 : decode cX9_adds 84 = .ok (.iload_n 1, 1) := by decide +kernel
theorem dX9_adds_85 : decode cX9_adds 85 = .ok (.iadd, 1) := by decide +kernel
theorem dX9_adds_86 : decode cX9_adds 86 = .ok (.aload_n 0, 1) := by decide +kernel
theorem dX9_adds_87 : decode cX9_adds 87 = .ok (.getfield 26, 3) := by decide +kernel
theorem dX9_adds_90 : decode cX9_adds 90 = .ok (.bipush 8, 2) := by decide +kernel
theorem dX9_adds_92 : decode cX9_adds 92 = .ok (.iaload, 1) := by decide +kernel
theorem dX9_adds_93 : decode cX9_adds 93 = .ok (.iastore, 1) := by decide +kernel
theorem dX9_adds_94 : decode cX9_adds 94 = .ok (.aload_n 0, 1) := by decide +kernel
theorem dX9_adds_95 : decode cX9_adds 95 = .ok (.getfield 7, 3) := by decide +kernel
theorem dX9_adds_98 : decode cX9_adds 98 = .ok (.bipush 111, 2) := by decide +kernel
theorem dX9_adds_100 : decode cX9_adds 100 = .ok (.iload_n 1, 1) := by decide +kernel
theorem dX9_adds_101 : decode cX9_adds 101 = .ok (.iadd, 1) := by decide +kernel
theorem dX9_adds_102 : decode cX9_adds 102 = .ok (.iconst 0, 1) := by decide +kernel
theorem dX9_adds_103 : decode cX9_adds 103 = .ok (.iastore, 1) := by decide +kernel
theorem dX9_adds_104 : decode cX9_adds 104 = .ok (.aload_n 0, 1) := by decide +kernel
theorem dX9_adds_105 : decode cX9_adds 105 = .ok (.getfield 7, 3) := by decide +kernel
theorem dX9_adds_108 : decode cX9_adds 108 = .ok (.bipush 123, 2) := by decide +kernel
theorem dX9_adds_110 : decode cX9_adds 110 = .ok (.iload_n 1, 1) := by decide +kernel
theorem dX9_adds_111 : decode cX9_adds 111 = .ok (.iadd, 1) := by decide +kernel
theorem dX9_adds_112 : decode cX9_adds 112 = .ok (.iconst (-1), 1) := by decide +kernel
theorem dX9_adds_113 : decode cX9_adds 113 = .ok (.iastore, 1) := by decide +kernel
theorem dX9_adds_114 : decode cX9_adds 114 = .ok (.aload_n 0, 1) := by decide +kernel
theorem dX9_adds_115 : decode cX9_adds 115 = .ok (.getfield 7, 3) := by decide +kernel
theorem dX9_adds_118 : decode cX9_adds 118 = .ok (.iconst 2, 1) := by decide +kernel
theorem dX9_adds_119 : decode cX9_adds 119 = .ok (.dup2, 1) := by decide +kernel
theorem dX9_adds_120 : decode cX9_adds 120 = .ok (.iaload, 1) := by decide +kernel
theorem dX9_adds_121 : decode cX9_adds 121 = .ok (.iconst 1, 1) := by decide +kernel
theorem dX9_adds_122 : decode cX9_adds 122 = .ok (.iadd, 1) := by decide +kernel
theorem dX9_adds_123 : decode cX9_adds 123 = .ok (.iastore, 1) := by decide +kernel
theorem dX9_adds_124 : decode cX9_adds 124 = .ok (.iload_n 1, 1) := by decide +kernel
theorem dX9_adds_125 : decode cX9_adds 125 = .ok (.ireturn, 1) := by decide +kernel
theorem dX9_addScrap_0 : decode cX9_addScrap 0 = .ok (.iload_n 1, 1) := by decide +kernel
theorem dX9_addScrap_1 : decode cX9_addScrap 1 = .ok (.iconst (-1), 1) := by decide +kernel
theorem dX9_addScrap_2 : decode cX9_addScrap 2 = .ok (.sipush 999, 3) := by decide +kernel
theorem dX9_addScrap_5 : decode cX9_addScrap 5 = .ok (.invokestatic 38, 3) := by decide +kernel
theorem dX9_addScrap_8 : decode cX9_addScrap 8 = .ok (.ifCond .eq 47, 3) := by decide +kernel
theorem dX9_addScrap_11 : decode cX9_addScrap 11 = .ok (.iload_n 2, 1) := by decide +kernel
theorem dX9_addScrap_12 : decode cX9_addScrap 12 = .ok (.iconst (-1), 1) := by decide +kernel
theorem dX9_addScrap_13 : decode cX9_addScrap 13 = .ok (.sipush 999, 3) := by decide +kernel
theorem dX9_addScrap_16 : decode cX9_addScrap 16 = .ok (.invokestatic 38, 3) := by decide +kernel
theorem dX9_addScrap_19 : decode cX9_addScrap 19 = .ok (.ifCond .eq 36, 3) := by decide +kernel
theorem dX9_addScrap_22 : decode cX9_addScrap 22 = .ok (.iload_n 3, 1) := by decide +kernel
theorem dX9_addScrap_23 : decode cX9_addScrap 23 = .ok (.iconst (-1), 1) := by decide +kernel
theorem dX9_addScrap_24 : decode cX9_addScrap 24 = .ok (.sipush 999, 3) := by decide +kernel
theorem dX9_addScrap_27 : decode cX9_addScrap 27 = .ok (.invokestatic 38, 3) := by decide +kernel
theorem dX9_addScrap_30 : decode cX9_addScrap 30 = .ok (.ifCond .eq 25, 3) := by decide +kernel
theorem dX9_addScrap_33 : decode cX9_addScrap 33 = .ok (.iload 4, 2) := by decide +kernel
theorem dX9_addScrap_35 : decode cX9_addScrap 35 = .ok (.iconst (-1), 1) := by decide +kernel
theorem dX9_addScrap_36 : decode cX9_addScrap 36 = .ok (.sipush 999, 3) := by decide +kernel
theorem dX9_addScrap_39 : decode cX9_addScrap 39 = .ok (.invokestatic 38, 3) := by decide +kernel
theorem dX9_addScrap_42 : decode cX9_addScrap 42 = .ok (.ifCond .eq 13, 3) := by decide +kernel
theorem dX9_addScrap_45 : decode cX9_addScrap 45 = .ok (.iload 5, 2) := by decide +kernel
theorem dX9_addScrap_47 : decode cX9_addScrap 47 = .ok (.iconst 0, 1) := by decide +kernel
theorem dX9_addScrap_48 : decode cX9_addScrap 48 = .ok (.iconst 1, 1) := by decide +kernel
theorem dX9_addScrap_49 : decode cX9_addScrap 49 = .ok (.invokestatic 38, 3) := by decide +kernel
theorem dX9_addScrap_52 : decode cX9_addScrap 52 = .ok (.ifCond .ne 7, 3) := by decide +kernel
theorem dX9_addScrap_55 : decode cX9_addScrap 55 = .ok (.sipush (-1001), 3) := by decide +kernel
theorem dX9_addScrap_58 : decode cX9_addScrap 58 = .ok (.ireturn, 1) := by decide +kernel
theorem dX9_addScrap_59 : decode cX9_addScrap 59 = .ok (.aload_n 0, 1) := by decide +kernel
theorem dX9_addScrap_60 : decode cX9_addScrap 60 = .ok (.getfield 26, 3) := by decide +kernel
theorem dX9_addScrap_63 : decode cX9_addScrap 63 = .ok (.iconst 0, 1) := by decide +kernel
theorem dX9_addScrap_64 : decode cX9_addScrap 64 = .ok (.iload_n 1, 1) := by decide +kernel
theorem dX9_addScrap_65 : decode cX9_addScrap 65 = .ok (.iastore, 1) := by decide +kernel
theorem dX9_addScrap_66 : decode cX9_addScrap 66 = .ok (.aload_n 0, 1) := by decide +kernel
theorem dX9_addScrap_67 : decode cX9_addScrap 67 = .ok (.getfield 26, 3) := by decide +kernel
theorem dX9_addScrap_70 : decode cX9_addScrap 70 = .ok (.iconst 1, 1) := by decide +kernel
theorem dX9_addScrap_71 : decode cX9_addScrap 71 = .ok (.iload_n 2, 1) := by decide +kernel
theorem dX9_addScrap_72 : decode cX9_addScrap 72 = .ok (.iastore, 1) := by decide +kernel
theorem dX9_addScrap_73 : decode cX9_addScrap 73 = .ok (.aload_n 0, 1) := by decide +kernel
theorem dX9_addScrap_74 : decode cX9_addScrap 74 = .ok (.getfield 26, 3) := by decide +kernel
theorem dX9_addScrap_77 : decode cX9_addScrap 77 = .ok (.iconst 2, 1) := by decide +kernel
theorem dX9_addScrap_78 : decode cX9_addScrap 78 = .ok (.iload_n 3, 1) := by decide +kernel
theorem dX9_addScrap_79 : decode cX9_addScrap 79 = .ok (.iastore, 1) := by decide +kernel
theorem dX9_addScrap_80 : decode cX9_addScrap 80 = .ok (.aload_n 0, 1) := by decide +kernel
theorem dX9_addScrap_81 : decode cX9_addScrap 81 = .ok (.getfield 26, 3) := by decide +kernel
theorem dX9_addScrap_84 : decode cX9_addScrap 84 = .ok (.iconst 3, 1) := by decide +kernel
theorem dX9_addScrap_85 : decode cX9_addScrap 85 = .ok (.iload 4, 2) := by decide +kernel
theorem dX9_addScrap_87 : decode cX9_addScrap 87 = .ok (.iastore, 1) := by decide +kernel
theorem dX9_addScrap_88 : decode cX9_addScrap 88 = .ok (.iconst 4, 1) := by decide +kernel
theorem dX9_addScrap_89 : decode cX9_addScrap 89 = .ok (.istore 6, 2) := by decide +kernel
theorem dX9_addScrap_91 : decode cX9_addScrap 91 = .ok (.iload 6, 2) := by decide +kernel
theorem dX9_addScrap_93 : decode cX9_addScrap 93 = .ok (.bipush 8, 2) := by decide +kernel
theorem dX9_addScrap_95 : decode cX9_addScrap 95 = .ok (.if_icmp .ge 17, 3) := by decide +kernel
theorem dX9_addScrap_98 : decode cX9_addScrap 98 = .ok (.aload_n 0, 1) := by decide +kernel
theorem dX9_addScrap_99 : decode cX9_addScrap 99 = .ok (.getfield 26, 3) := by decide +kernel
theorem dX9_addScrap_102 : decode cX9_addScrap 102 = .ok (.iload 6, 2) := by decide +kernel
theorem dX9_addScrap_104 : decode cX9_addScrap 104 = .ok (.iconst 0, 1) := by decide +kernel
theorem dX9_addScrap_105 : decode cX9_addScrap 105 = .ok (.iastore, 1) := by decide +kernel
theorem dX9_addScrap_106 : decode cX9_addScrap 106 = .ok (.iinc 6 1, 3) := by decide +kernel
theorem dX9_addScrap_109 : decode cX9_addScrap 109 = .ok (.goto (-18), 3) := by decide +kernel
theorem dX9_addScrap_112 : decode cX9_addScrap 112 = .ok (.aload_n 0, 1) := by decide +kernel
theorem dX9_addScrap_113 : decode cX9_addScrap 113 = .ok (.getfield 26, 3) := by decide +kernel
theorem dX9_addScrap_116 : decode cX9_addScrap 116 = .ok (.bipush 8, 2) := by decide +kernel
theorem dX9_addScrap_118 : decode cX9_addScrap 118 = .ok (.iload 5, 2) := by decide +kernel
theorem dX9_addScrap_120 : decode cX9_addScrap 120 = .ok (.iastore, 1) := by decide +kernel
theorem dX9_addScrap_121 : decode cX9_addScrap 121 = .ok (.aload_n 0, 1) := by decide +kernel
theorem dX9_addScrap_122 : decode cX9_addScrap 122 = .ok (.invokevirtual 80, 3) := by decide +kernel
theorem dX9_addScrap_125 : decode cX9_addScrap 125 = .ok (.ireturn, 1) := by decide +kernel
theorem dX9_add_0 : decode cX9_add 0 = .ok (.aload_n 0, 1) := by decide +kernel
theorem dX9_add_1 : decode cX9_add 1 = .ok (.invokevirtual 83, 3) := by decide +kernel
theorem dX9_add_4 : decode cX9_add 4 = .ok (.sipush (-1004), 3) := by decide +kernel
theorem dX9_add_7 : decode cX9_add 7 = .ok (.if_icmp .eq 9, 3) := by decide +kernel
theorem dX9_add_10 : decode cX9_add 10 = .ok (.sipush (-1002), 3) := by decide +kernel
theorem dX9_add_13 : decode cX9_add 13 = .ok (.goto 7, 3) := by decide +kernel
theorem dX9_add_16 : decode cX9_add 16 = .ok (.aload_n 0, 1) := by decide +kernel
theorem dX9_add_17 : decode cX9_add 17 = .ok (.invokevirtual 80, 3) := by decide +kernel
theorem dX9_add_20 : decode cX9_add 20 = .ok (.ireturn, 1) := by decide +kernel
theorem dX9_removeScrap_0 : decode cX9_removeScrap 0 = .ok (.aload_n 0, 1) := by decide +kernel
theorem dX9_removeScrap_1 : decode cX9_removeScrap 1 = .ok (.iload_n 1, 1) := by decide +kernel
theorem dX9_removeScrap_2 : decode cX9_removeScrap 2 = .ok (.invokevirtual 86, 3) := by decide +kernel
theorem dX9_removeScrap_5 : decode cX9_removeScrap 5 = .ok (.ifCond .ne 7, 3) := by decide +kernel
theorem dX9_removeScrap_8 : decode cX9_removeScrap 8 = .ok (.sipush (-1001), 3) := by decide +kernel
theorem dX9_removeScrap_11 : decode cX9_removeScrap 11 = .ok (.ireturn, 1) := by decide +kernel
theorem dX9_removeScrap_12 : decode cX9_removeScrap 12 = .ok (.aload_n 0, 1) := by decide +kernel
theorem dX9_removeScrap_13 : decode cX9_removeScrap 13 = .ok (.invokevirtual 73, 3) := by decide +kernel
theorem dX9_removeScrap_16 : decode cX9_removeScrap 16 = .ok (.aload_n 0, 1) := by decide +kernel
theorem dX9_removeScrap_17 : decode cX9_removeScrap 17 = .ok (.getfield 7, 3) := by decide +kernel
theorem dX9_removeScrap_20 : decode cX9_removeScrap 20 = .ok (.iconst 2, 1) := by decide +kernel
theorem dX9_removeScrap_21 : decode cX9_removeScrap 21 = .ok (.dup2, 1) := by decide +kernel
theorem dX9_removeScrap_22 : decode cX9_removeScrap 22 = .ok (.iaload, 1) := by decide +kernel
theorem dX9_removeScrap_23 : decode cX9_removeScrap 23 = .ok (.iconst 1, 1) := by decide +kernel
theorem dX9_removeScrap_24 : decode cX9_removeScrap 24 = .ok (.isub, 1) := by decide +kernel
theorem dX9_removeScrap_25 : decode cX9_removeScrap 25 = .ok (.iastore, 1) := by decide +kernel
theorem dX9_removeScrap_26 : decode cX9_removeScrap 26 = .ok (.iload_n 1, 1) := by decide +kernel
theorem dX9_removeScrap_27 : decode cX9_removeScrap 27 = .ok (.istore_n 2, 1) := by decide +kernel
theorem dX9_removeScrap_28 : decode cX9_removeScrap 28 = .ok (.iload_n 2, 1) := by decide +kernel
theorem dX9_removeScrap_29 : decode cX9_removeScrap 29 = .ok (.aload_n 0, 1) := by decide +kernel
theorem dX9_removeScrap_30 : decode cX9_removeScrap 30 = .ok (.getfield 7, 3) := by decide +kernel
theorem dX9_removeScrap_33 : decode cX9_removeScrap 33 = .ok (.iconst 2, 1) := by decide +kernel
theorem dX9_removeScrap_34 : decode cX9_removeScrap 34 = .ok (.iaload, 1) := by decide +kernel
theorem dX9_removeScrap_35 : decode cX9_removeScrap 35 = .ok (.if_icmp .ge 109, 3) := by decide +kernel
theorem dX9_removeScrap_38 : decode cX9_removeScrap 38 = .ok (.iconst 0, 1) := by decide +kernel
theorem dX9_removeScrap_39 : decode cX9_removeScrap 39 = .ok (.istore_n 3, 1) := by decide +kernel
theorem dX9_removeScrap_40 : decode cX9_removeScrap 40 = .ok (.iload_n 3, 1) := by decide +kernel
theorem dX9_removeScrap_41 : decode cX9_removeScrap 41 = .ok (.iconst 4, 1) := by decide +kernel
theorem dX9_removeScrap_42 : decode cX9_removeScrap 42 = .ok (.if_icmp .ge 63, 3) := by decide +kernel
theorem dX9_removeScrap_45 : decode cX9_removeScrap 45 = .ok (.aload_n 0, 1) := by decide +kernel
theorem dX9_removeScrap_46 : decode cX9_removeScrap 46 = .ok (.getfield 7, 3) := by decide +kernel
theorem dX9_removeScrap_49 : decode cX9_removeScrap 49 = .ok (.iconst 3, 1) := by decide +kernel
theorem dX9_removeScrap_50 : decode cX9_removeScrap 50 = .ok (.iconst 4, 1) := by decide +kernel
theorem dX9_removeScrap_51 : decode cX9_removeScrap 51 = .ok (.iload_n 2, 1) := by decide +kernel
theorem dX9_removeScrap_52 : decode cX9_removeScrap 52 = .ok (.imul, 1) := by decide +kernel
theorem dX9_removeScrap_53 : decode cX9_removeScrap 53 = .ok (.iadd, 1) := by decide +kernel
theorem dX9_removeScrap_54 : decode cX9_removeScrap 54 = .ok (.iload_n 3, 1) := by decide +kernel
theorem dX9_removeScrap_55 : decode cX9_removeScrap 55 = .ok (.iadd, 1) := by decide +kernel
theorem dX9_removeScrap_56 : decode cX9_removeScrap 56 = .ok (.aload_n 0, 1) := by decide +kernel
theorem dX9_removeScrap_57 : decode cX9_removeScrap 57 = .ok (.getfield 7, 3) := by decide +kernel
theorem dX9_removeScrap_60 : decode cX9_removeScrap 60 = .ok (.iconst 3, 1) := by decide +kernel
theorem dX9_removeScrap_61 : decode cX9_removeScrap 61 = .ok (.iconst 4, 1) := by decide +kernel
theorem dX9_removeScrap_62 : decode cX9_removeScrap 62 = .ok (.iload_n 2, 1) := by decide +kernel
theorem dX9_removeScrap_63 : decode cX9_removeScrap 63 = .ok (.imul, 1) := by decide +kernel
theorem dX9_removeScrap_64 : decode cX9_removeScrap 64 = .ok (.iadd, 1) := by decide +kernel
theorem dX9_removeScrap_65 : decode cX9_removeScrap 65 = .ok (.iconst 4, 1) := by decide +kernel
theorem dX9_removeScrap_66 : decode cX9_removeScrap 66 = .ok (.iadd, 1) := by decide +kernel
theorem dX9_removeScrap_67 : decode cX9_removeScrap 67 = .ok (.iload_n 3, 1) := by decide +kernel
theorem dX9_removeScrap_68 : decode cX9_removeScrap 68 = .ok (.iadd, 1) := by decide +kernel
theorem dX9_removeScrap_69 : decode cX9_removeScrap 69 = .ok (.iaload, 1) := by decide +kernel
theorem dX9_removeScrap_70 : decode cX9_removeScrap 70 = .ok (.iastore, 1) := by decide +kernel
theorem dX9_removeScrap_71 : decode cX9_removeScrap 71 = .ok (.aload_n 0, 1) := by decide +kernel
theorem dX9_removeScrap_72 : decode cX9_removeScrap 72 = .ok (.getfield 7, 3) := by decide +kernel
theorem dX9_removeScrap_75 : decode cX9_removeScrap 75 = .ok (.bipush 51, 2) := by decide +kernel
theorem dX9_removeScrap_77 : decode cX9_removeScrap 77 = .ok (.iconst 4, 1) := by decide +kernel
theorem dX9_removeScrap_78 : decode cX9_removeScrap 78 = .ok (.iload_n 2, 1) := by decide +kernel
theorem dX9_removeScrap_79 : decode cX9_removeScrap 79 = .ok (.imul, 1) := by decide +kernel
theorem dX9_removeScrap_80 : decode cX9_removeScrap 80 = .ok (.iadd, 1) := by decide +kernel
theorem dX9_removeScrap_81 : decode cX9_removeScrap 81 = .ok (.iload_n 3, 1) := by decide +kernel
theorem dX9_removeScrap_82 : decode cX9_removeScrap 82 = .ok (.iadd, 1) := by decide +kernel
theorem dX9_removeScrap_83 : decode cX9_removeScrap 83 = .ok (.aload_n 0, 1) := by decide +kernel
theorem dX9_removeScrap_84 : decode cX9_removeScrap 84 = .ok (.getfield 7, 3) := by decide +kernel
theorem dX9_removeScrap_87 : decode cX9_removeScrap 87 = .ok (.bipush 51, 2) := by decide +kernel
theorem dX9_removeScrap_89 : decode cX9_removeScrap 89 = .ok (.iconst 4, 1) := by decide +kernel
theorem dX9_removeScrap_90 : decode cX9_removeScrap 90 = .ok (.iload_n 2, 1) := by decide +kernel
theorem dX9_removeScrap_91 : decode cX9_removeScrap 91 = .ok (.imul, 1) := by decide +kernel
theorem dX9_removeScrap_92 : decode cX9_removeScrap 92 = .ok (.iadd, 1) := by decide +kernel
theorem dX9_removeScrap_93 : decode cX9_removeScrap 93 = .ok (.iconst 4, 1) := by decide +kernel
theorem dX9_removeScrap_94 : decode cX9_removeScrap 94 = .ok (.iadd, 1) := by decide +kernel
theorem dX9_removeScrap_95 : decode cX9_removeScrap 95 = .ok (.iload_n 3, 1) := by decide +kernel
theorem dX9_removeScrap_96 : decode cX9_removeScrap 96 = .ok (.iadd, 1) := by decide +kernel
theorem dX9_removeScrap_97 : decode cX9_removeScrap 97 = .ok (.iaload, 1) := by decide +kernel
theorem dX9_removeScrap_98 : decode cX9_removeScrap 98 = .ok (.iastore, 1) := by decide +kernel
theorem dX9_removeScrap_99 : decode cX9_removeScrap 99 = .ok (.iinc 3 1, 3) := by decide +kernel
theorem dX9_removeScrap_102 : decode cX9_removeScrap 102 = .ok (.goto (-62), 3) := by decide +kernel
theorem dX9_removeScrap_105 : decode cX9_removeScrap 105 = .ok (.bipush 99, 2) := by decide +kernel
theorem dX9_removeScrap_107 : decode cX9_removeScrap 107 = .ok (.istore_n 3, 1) := by decide +kernel
theorem dX9_removeScrap_108 : decode cX9_removeScrap 108 = .ok (.iload_n 3, 1) := by decide +kernel
theorem dX9_removeScrap_109 : decode cX9_removeScrap 109 = .ok (.bipush 123, 2) := by decide +kernel
theorem dX9_removeScrap_111 : decode cX9_removeScrap 111 = .ok (.if_icmp .gt 27, 3) := by decide +kernel
theorem dX9_removeScrap_114 : decode cX9_removeScrap 114 = .ok (.aload_n 0, 1) := by decide +kernel
theorem dX9_removeScrap_115 : decode cX9_removeScrap 115 = .ok (.getfield 7, 3) := by decide +kernel
theorem dX9_removeScrap_118 : decode cX9_removeScrap 118 = .ok (.iload_n 3, 1) := by decide +kernel
theorem dX9_removeScrap_119 : decode cX9_removeScrap 119 = .ok (.iload_n 2, 1) := by decide +kernel
theorem dX9_removeScrap_120 : decode cX9_removeScrap 120 = .ok (.iadd, 1) := by decide +kernel
theorem dX9_removeScrap_121 : decode cX9_removeScrap 121 = .ok (.aload_n 0, 1) := by decide +kernel
theorem dX9_removeScrap_122 : decode cX9_removeScrap 122 = .ok (.getfield 7, 3) := by decide +kernel
theorem dX9_removeScrap_125 : decode cX9_removeScrap 125 = .ok (.iload_n 3, 1) := by decide +kernel
theorem dX9_removeScrap_126 : decode cX9_removeScrap 126 = .ok (.iload_n 2, 1) := by decide +kernel
theorem dX9_removeScrap_127 : decode cX9_removeScrap 127 = .ok (.iadd, 1) := by decide +kernel
theorem dX9_removeScrap_128 : decode cX9_removeScrap 128 = .ok (.iconst 1, 1) := by decide +kernel
theorem dX9_removeScrap_129 : decode cX9_removeScrap 129 = .ok (.iadd, 1) := by decide +kernel
theorem dX9_removeScrap_130 : decode cX9_removeScrap 130 = .ok (.iaload, 1) := by decide +kernel
theorem dX9_removeScrap_131 : decode cX9_removeScrap 131 = .ok (.iastore, 1) := by decide +kernel
theorem dX9_removeScrap_132 : decode cX9_removeScrap 132 = .ok (.iinc 3 12, 3) := by decide +kernel
theorem dX9_removeScrap_135 : decode cX9_removeScrap 135 = .ok (.goto (-27), 3) := by decide +kernel
theorem dX9_removeScrap_138 : decode cX9_removeScrap 138 = .ok (.iinc 2 1, 3) := by decide +kernel
theorem dX9_removeScrap_141 : decode cX9_removeScrap 141 = .ok (.goto (-113), 3) := by decide +kernel
theorem dX9_removeScrap_144 : decode cX9_removeScrap 144 = .ok (.aload_n 0, 1) := by decide +kernel
theorem dX9_removeScrap_145 : decode cX9_removeScrap 145 = .ok (.getfield 7, 3) := by decide +kernel
theorem dX9_removeScrap_148 : decode cX9_removeScrap 148 = .ok (.iconst 2, 1) := by decide +kernel
theorem dX9_removeScrap_149 : decode cX9_removeScrap 149 = .ok (.iaload, 1) := by decide +kernel
theorem dX9_removeScrap_150 : decode cX9_removeScrap 150 = .ok (.ireturn, 1) := by decide +kernel
theorem dX9_scrap_0 : decode cX9_scrap 0 = .ok (.aload_n 0, 1) := by decide +kernel
theorem dX9_scrap_1 : decode cX9_scrap 1 = .ok (.iload_n 1, 1) := by decide +kernel
theorem dX9_scrap_2 : decode cX9_scrap 2 = .ok (.invokevirtual 86, 3) := by decide +kernel
theorem dX9_scrap_5 : decode cX9_scrap 5 = .ok (.ifCond .eq 12, 3) := by decide +kernel
theorem dX9_scrap_8 : decode cX9_scrap 8 = .ok (.iload_n 2, 1) := by decide +kernel
theorem dX9_scrap_9 : decode cX9_scrap 9 = .ok (.iconst 0, 1) := by decide +kernel
theorem dX9_scrap_10 : decode cX9_scrap 10 = .ok (.iconst 5, 1) := by decide +kernel
theorem dX9_scrap_11 : decode cX9_scrap 11 = .ok (.invokestatic 38, 3) := by decide +kernel
theorem dX9_scrap_14 : decode cX9_scrap 14 = .ok (.ifCond .ne 7, 3) := by decide +kernel
theorem dX9_scrap_17 : decode cX9_scrap 17 = .ok (.sipush (-1001), 3) := by decide +kernel
theorem dX9_scrap_20 : decode cX9_scrap 20 = .ok (.ireturn, 1) := by decide +kernel
theorem dX9_scrap_21 : decode cX9_scrap 21 = .ok (.iload_n 2, 1) := by decide +kernel
theorem dX9_scrap_22 : decode cX9_scrap 22 = .ok (.iconst 2, 1) := by decide +kernel
theorem dX9_scrap_23 : decode cX9_scrap 23 = .ok (.if_icmp .ge 18, 3) := by decide +kernel
theorem dX9_scrap_26 : decode cX9_scrap 26 = .ok (.aload_n 0, 1) := by decide +kernel
theorem dX9_scrap_27 : decode cX9_scrap 27 = .ok (.getfield 7, 3) := by decide +kernel
theorem dX9_scrap_30 : decode cX9_scrap 30 = .ok (.bipush 99, 2) := by decide +kernel
theorem dX9_scrap_32 : decode cX9_scrap 32 = .ok (.bipush 12, 2) := by decide +kernel
theorem dX9_scrap_34 : decode cX9_scrap 34 = .ok (.iload_n 2, 1) := by decide +kernel
theorem dX9_scrap_35 : decode cX9_scrap 35 = .ok (.imul, 1) := by decide +kernel
theorem dX9_scrap_36 : decode cX9_scrap 36 = .ok (.iadd, 1) := by decide +kernel
theorem dX9_scrap_37 : decode cX9_scrap 37 = .ok (.iload_n 1, 1) := by decide +kernel
theorem dX9_scrap_38 : decode cX9_scrap 38 = .ok (.iadd, 1) := by decide +kernel
theorem dX9_scrap_39 : decode cX9_scrap 39 = .ok (.iaload, 1) := by decide +kernel
theorem dX9_scrap_40 : decode cX9_scrap 40 = .ok (.ireturn, 1) := by decide +kernel
theorem dX9_scrap_41 : decode cX9_scrap 41 = .ok (.aload_n 0, 1) := by decide +kernel
theorem dX9_scrap_42 : decode cX9_scrap 42 = .ok (.iload_n 1, 1) := by decide +kernel
theorem dX9_scrap_43 : decode cX9_scrap 43 = .ok (.invokevirtual 76, 3) := by decide +kernel
theorem dX9_scrap_46 : decode cX9_scrap 46 = .ok (.ifCond .ne 7, 3) := by decide +kernel
theorem dX9_scrap_49 : decode cX9_scrap 49 = .ok (.sipush (-1004), 3) := by decide +kernel
theorem dX9_scrap_52 : decode cX9_scrap 52 = .ok (.ireturn, 1) := by decide +kernel
theorem dX9_scrap_53 : decode cX9_scrap 53 = .ok (.iload_n 2, 1) := by decide +kernel
theorem dX9_scrap_54 : decode cX9_scrap 54 = .ok (.iconst 2, 1) := by decide +kernel
theorem dX9_scrap_55 : decode cX9_scrap 55 = .ok (.if_icmp .ne 13, 3) := by decide +kernel
theorem dX9_scrap_58 : decode cX9_scrap 58 = .ok (.aload_n 0, 1) := by decide +kernel
theorem dX9_scrap_59 : decode cX9_scrap 59 = .ok (.getfield 7, 3) := by decide +kernel
theorem dX9_scrap_62 : decode cX9_scrap 62 = .ok (.bipush 123, 2) := by decide +kernel
theorem dX9_scrap_64 : decode cX9_scrap 64 = .ok (.iload_n 1, 1) := by decide +kernel
theorem dX9_scrap_65 : decode cX9_scrap 65 = .ok (.iadd, 1) := by decide +kernel
theorem dX9_scrap_66 : decode cX9_scrap 66 = .ok (.iaload, 1) := by decide +kernel
theorem dX9_scrap_67 : decode cX9_scrap 67 = .ok (.ireturn, 1) := by decide +kernel
theorem dX9_scrap_68 : decode cX9_scrap 68 = .ok (.iload_n 2, 1) := by decide +kernel
theorem dX9_scrap_69 : decode cX9_scrap 69 = .ok (.iconst 3, 1) := by decide +kernel
theorem dX9_scrap_70 : decode cX9_scrap 70 = .ok (.if_icmp .ne 14, 3) := by decide +kernel
theorem dX9_scrap_73 : decode cX9_scrap 73 = .ok (.aload_n 0, 1) := by decide +kernel
theorem dX9_scrap_74 : decode cX9_scrap 74 = .ok (.invokevirtual 89, 3) := by decide +kernel
theorem dX9_scrap_77 : decode cX9_scrap 77 = .ok (.aload_n 0, 1) := by decide +kernel
theorem dX9_scrap_78 : decode cX9_scrap 78 = .ok (.getfield 29, 3) := by decide +kernel
theorem dX9_scrap_81 : decode cX9_scrap 81 = .ok (.iload_n 1, 1) := by decide +kernel
theorem dX9_scrap_82 : decode cX9_scrap 82 = .ok (.iaload, 1) := by decide +kernel
theorem dX9_scrap_83 : decode cX9_scrap 83 = .ok (.ireturn, 1) := by decide +kernel
theorem dX9_scrap_84 : decode cX9_scrap 84 = .ok (.aload_n 0, 1) := by decide +kernel
theorem dX9_scrap_85 : decode cX9_scrap 85 = .ok (.iload_n 1, 1) := by decide +kernel
theorem dX9_scrap_86 : decode cX9_scrap 86 = .ok (.aload_n 0, 1) := by decide +kernel
theorem dX9_scrap_87 : decode cX9_scrap 87 = .ok (.getfield 7, 3) := by decide +kernel
theorem dX9_scrap_90 : decode cX9_scrap 90 = .ok (.bipush 123, 2) := by decide +kernel
theorem dX9_scrap_92 : decode cX9_scrap 92 = .ok (.iload_n 1, 1) := by decide +kernel
theorem dX9_scrap_93 : decode cX9_scrap 93 = .ok (.iadd, 1) := by decide +kernel
theorem dX9_scrap_94 : decode cX9_scrap 94 = .ok (.iaload, 1) := by decide +kernel
theorem dX9_scrap_95 : decode cX9_scrap 95 = .ok (.aload_n 0, 1) := by decide +kernel
theorem dX9_scrap_96 : decode cX9_scrap 96 = .ok (.getfield 7, 3) := by decide +kernel
theorem dX9_scrap_99 : decode cX9_scrap 99 = .ok (.bipush 111, 2) := by decide +kernel
theorem dX9_scrap_101 : decode cX9_scrap 101 = .ok (.iload_n 1, 1) := by decide +kernel
theorem dX9_scrap_102 : decode cX9_scrap 102 = .ok (.iadd, 1) := by decide +kernel
theorem dX9_scrap_103 : decode cX9_scrap 103 = .ok (.iaload, 1) := by decide +kernel
theorem dX9_scrap_104 : decode cX9_scrap 104 = .ok (.iload_n 2, 1) := by decide +kernel
theorem dX9_scrap_105 : decode cX9_scrap 105 = .ok (.iconst 4, 1) := by decide +kernel
theorem dX9_scrap_106 : decode cX9_scrap 106 = .ok (.if_icmp .ne 7, 3) := by decide +kernel
theorem dX9_scrap_109 : decode cX9_scrap 109 = .ok (.iconst 1, 1) := by decide +kernel
theorem dX9_scrap_110 : decode cX9_scrap 110 = .ok (.goto 4, 3) := by decide +kernel
theorem dX9_scrap_113 : decode cX9_scrap 113 = .ok (.iconst 0, 1) := by decide +kernel
theorem dX9_scrap_114 : decode cX9_scrap 114 = .ok (.invokevirtual 92, 3) := by decide +kernel
theorem dX9_scrap_117 : decode cX9_scrap 117 = .ok (.ireturn, 1) := by decide +kernel
theorem dX9_edge_0 : decode cX9_edge 0 = .ok (.aload_n 0, 1) := by decide +kernel
theorem dX9_edge_1 : decode cX9_edge 1 = .ok (.iload_n 1, 1) := by decide +kernel
theorem dX9_edge_2 : decode cX9_edge 2 = .ok (.invokevirtual 86, 3) := by decide +kernel
theorem dX9_edge_5 : decode cX9_edge 5 = .ok (.ifCond .eq 32, 3) := by decide +kernel
theorem dX9_edge_8 : decode cX9_edge 8 = .ok (.iload_n 2, 1) := by decide +kernel
theorem dX9_edge_9 : decode cX9_edge 9 = .ok (.iconst 0, 1) := by decide +kernel
theorem dX9_edge_10 : decode cX9_edge 10 = .ok (.bipush 7, 2) := by decide +kernel
theorem dX9_edge_12 : decode cX9_edge 12 = .ok (.invokestatic 38, 3) := by decide +kernel
theorem dX9_edge_15 : decode cX9_edge 15 = .ok (.ifCond .eq 22, 3) := by decide +kernel
theorem dX9_edge_18 : decode cX9_edge 18 = .ok (.iload_n 3, 1) := by decide +kernel
theorem dX9_edge_19 : decode cX9_edge 19 = .ok (.iconst 0, 1) := by decide +kernel
theorem dX9_edge_20 : decode cX9_edge 20 = .ok (.iconst 3, 1) := by decide +kernel
theorem dX9_edge_21 : decode cX9_edge 21 = .ok (.invokestatic 38, 3) := by decide +kernel
theorem dX9_edge_24 : decode cX9_edge 24 = .ok (.ifCond .eq 13, 3) := by decide +kernel
theorem dX9_edge_27 : decode cX9_edge 27 = .ok (.iload 4, 2) := by decide +kernel
theorem dX9_edge_29 : decode cX9_edge 29 = .ok (.iconst 0, 1) := by decide +kernel
theorem dX9_edge_30 : decode cX9_edge 30 = .ok (.iconst 1, 1) := by decide +kernel
theorem dX9_edge_31 : decode cX9_edge 31 = .ok (.invokestatic 38, 3) := by decide +kernel
theorem dX9_edge_34 : decode cX9_edge 34 = .ok (.ifCond .ne 7, 3) := by decide +kernel
theorem dX9_edge_37 : decode cX9_edge 37 = .ok (.sipush (-1001), 3) := by decide +kernel
theorem dX9_edge_40 : decode cX9_edge 40 = .ok (.ireturn, 1) := by decide +kernel
theorem dX9_edge_41 : decode cX9_edge 41 = .ok (.iload 4, 2) := by decide +kernel
theorem dX9_edge_43 : decode cX9_edge 43 = .ok (.ifCond .ne 13, 3) := by decide +kernel
theorem dX9_edge_46 : decode cX9_edge 46 = .ok (.aload_n 0, 1) := by decide +kernel
theorem dX9_edge_47 : decode cX9_edge 47 = .ok (.iload_n 1, 1) := by decide +kernel
theorem dX9_edge_48 : decode cX9_edge 48 = .ok (.iload_n 2, 1) := by decide +kernel
theorem dX9_edge_49 : decode cX9_edge 49 = .ok (.iload_n 3, 1) := by decide +kernel
theorem dX9_edge_50 : decode cX9_edge 50 = .ok (.invokevirtual 58, 3) := by decide +kernel
theorem dX9_edge_53 : decode cX9_edge 53 = .ok (.goto 10, 3) := by decide +kernel
theorem dX9_edge_56 : decode cX9_edge 56 = .ok (.aload_n 0, 1) := by decide +kernel
theorem dX9_edge_57 : decode cX9_edge 57 = .ok (.iload_n 1, 1) := by decide +kernel
theorem dX9_edge_58 : decode cX9_edge 58 = .ok (.iload_n 2, 1) := by decide +kernel
theorem dX9_edge_59 : decode cX9_edge 59 = .ok (.iload_n 3, 1) := by decide +kernel
theorem dX9_edge_60 : decode cX9_edge 60 = .ok (.invokevirtual 96, 3) := by decide +kernel
theorem dX9_edge_63 : decode cX9_edge 63 = .ok (.ireturn, 1) := by decide +kernel
theorem dX9_undo_0 : decode cX9_undo 0 = .ok (.aload_n 0, 1) := by decide +kernel
theorem dX9_undo_1 : decode cX9_undo 1 = .ok (.getfield 46, 3) := by decide +kernel
theorem dX9_undo_4 : decode cX9_undo 4 = .ok (.ifCond .ne 7, 3) := by decide +kernel
theorem dX9_undo_7 : decode cX9_undo 7 = .ok (.sipush (-1002), 3) := by decide +kernel
theorem dX9_undo_10 : decode cX9_undo 10 = .ok (.ireturn, 1) := by decide +kernel
theorem dX9_undo_11 : decode cX9_undo 11 = .ok (.aload_n 0, 1) := by decide +kernel
theorem dX9_undo_12 : decode cX9_undo 12 = .ok (.dup, 1) := by decide +kernel
theorem dX9_undo_13 : decode cX9_undo 13 = .ok (.getfield 46, 3) := by decide +kernel
theorem dX9_undo_16 : decode cX9_undo 16 = .ok (.iconst 1, 1) := by decide +kernel
theorem dX9_undo_17 : decode cX9_undo 17 = .ok (.isub, 1) := by decide +kernel
theorem dX9_undo_18 : decode cX9_undo 18 = .ok (.putfield 46, 3) := by decide +kernel
theorem dX9_undo_21 : decode cX9_undo 21 = .ok (.iconst 0, 1) := by decide +kernel
theorem dX9_undo_22 : decode cX9_undo 22 = .ok (.istore_n 1, 1) := by decide +kernel
theorem dX9_undo_23 : decode cX9_undo 23 = .ok (.iload_n 1, 1) := by decide +kernel
theorem dX9_undo_24 : decode cX9_undo 24 = .ok (.sipush 135, 3) := by decide +kernel
theorem dX9_undo_27 : decode cX9_undo 27 = .ok (.if_icmp .ge 30, 3) := by decide +kernel
theorem dX9_undo_30 : decode cX9_undo 30 = .ok (.aload_n 0, 1) := by decide +kernel
theorem dX9_undo_31 : decode cX9_undo 31 = .ok (.getfield 7, 3) := by decide +kernel
theorem dX9_undo_34 : decode cX9_undo 34 = .ok (.iload_n 1, 1) := by decide +kernel
theorem dX9_undo_35 : decode cX9_undo 35 = .ok (.aload_n 0, 1) := by decide +kernel
theorem dX9_undo_36 : decode cX9_undo 36 = .ok (.getfield 13, 3) := by decide +kernel
theorem dX9_undo_39 : decode cX9_undo 39 = .ok (.sipush 135, 3) := by decide +kernel
theorem dX9_undo_42 : decode cX9_undo 42 = .ok (.aload_n 0, 1) := by decide +kernel
theorem dX9_undo_43 : decode cX9_undo 43 = .ok (.getfield 46, 3) := by decide +kernel
theorem dX9_undo_46 : decode cX9_undo 46 = .ok (.imul, 1) := by decide +kernel
theorem dX9_undo_47 : decode cX9_undo 47 = .ok (.iload_n 1, 1) := by decide +kernel
theorem dX9_undo_48 : decode cX9_undo 48 = .ok (.iadd, 1) := by decide +kernel
theorem dX9_undo_49 : decode cX9_undo 49 = .ok (.iaload, 1) := by decide +kernel
theorem dX9_undo_50 : decode cX9_undo 50 = .ok (.iastore, 1) := by decide +kernel
theorem dX9_undo_51 : decode cX9_undo 51 = .ok (.iinc 1 1, 3) := by decide +kernel
theorem dX9_undo_54 : decode cX9_undo 54 = .ok (.goto (-31), 3) := by decide +kernel
theorem dX9_undo_57 : decode cX9_undo 57 = .ok (.aload_n 0, 1) := by decide +kernel
theorem dX9_undo_58 : decode cX9_undo 58 = .ok (.getfield 46, 3) := by decide +kernel
theorem dX9_undo_61 : decode cX9_undo 61 = .ok (.ireturn, 1) := by decide +kernel
theorem dX9_gathers_0 : decode cX9_gathers 0 = .ok (.iconst 0, 1) := by decide +kernel
theorem dX9_gathers_1 : decode cX9_gathers 1 = .ok (.istore_n 1, 1) := by decide +kernel
theorem dX9_gathers_2 : decode cX9_gathers 2 = .ok (.iload_n 1, 1) := by decide +kernel
theorem dX9_gathers_3 : decode cX9_gathers 3 = .ok (.bipush 12, 2) := by decide +kernel
theorem dX9_gathers_5 : decode cX9_gathers 5 = .ok (.if_icmp .ge 16, 3) := by decide +kernel
theorem dX9_gathers_8 : decode cX9_gathers 8 = .ok (.aload_n 0, 1) := by decide +kernel
theorem dX9_gathers_9 : decode cX9_gathers 9 = .ok (.getfield 29, 3) := by decide +kernel
theorem dX9_gathers_12 : decode cX9_gathers 12 = .ok (.iload_n 1, 1) := by decide +kernel
theorem dX9_gathers_13 : decode cX9_gathers 13 = .ok (.iconst (-1), 1) := by decide +kernel
theorem dX9_gathers_14 : decode cX9_gathers 14 = .ok (.iastore, 1) := by decide +kernel
theorem dX9_gathers_15 : decode cX9_gathers 15 = .ok (.iinc 1 1, 3) := by decide +kernel
theorem dX9_gathers_18 : decode cX9_gathers 18 = .ok (.goto (-16), 3) := by decide +kernel
theorem dX9_gathers_21 : decode cX9_gathers 21 = .ok (.aload_n 0, 1) := by decide +kernel
theorem dX9_gathers_22 : decode cX9_gathers 22 = .ok (.iconst 0, 1) := by decide +kernel
theorem dX9_gathers_23 : decode cX9_gathers 23 = .ok (.putfield 99, 3) := by decide +kernel
theorem dX9_gathers_26 : decode cX9_gathers 26 = .ok (.iconst 0, 1) := by decide +kernel
theorem dX9_gathers_27 : decode cX9_gathers 27 = .ok (.istore_n 1, 1) := by decide +kernel
theorem dX9_gathers_28 : decode cX9_gathers 28 = .ok (.iload_n 1, 1) := by decide +kernel
theorem dX9_gathers_29 : decode cX9_gathers 29 = .ok (.aload_n 0, 1) := by decide +kernel
theorem dX9_gathers_30 : decode cX9_gathers 30 = .ok (.getfield 7, 3) := by decide +kernel
theorem dX9_gathers_33 : decode cX9_gathers 33 = .ok (.iconst 2, 1) := by decide +kernel
theorem dX9_gathers_34 : decode cX9_gathers 34 = .ok (.iaload, 1) := by decide +kernel
theorem dX9_gathers_35 : decode cX9_gathers 35 = .ok (.if_icmp .ge 51, 3) := by decide +kernel
theorem dX9_gathers_38 : decode cX9_gathers 38 = .ok (.aload_n 0, 1) := by decide +kernel
theorem dX9_gathers_39 : decode cX9_gathers 39 = .ok (.iload_n 1, 1) := by decide +kernel
theorem dX9_gathers_40 : decode cX9_gathers 40 = .ok (.invokevirtual 76, 3) := by decide +kernel
theorem dX9_gathers_43 : decode cX9_gathers 43 = .ok (.ifCond .eq 37, 3) := by decide +kernel
theorem dX9_gathers_46 : decode cX9_gathers 46 = .ok (.aload_n 0, 1) := by decide +kernel
theorem dX9_gathers_47 : decode cX9_gathers 47 = .ok (.getfield 29, 3) := by decide +kernel
theorem dX9_gathers_50 : decode cX9_gathers 50 = .ok (.iload_n 1, 1) := by decide +kernel
theorem dX9_gathers_51 : decode cX9_gathers 51 = .ok (.iaload, 1) := by decide +kernel
theorem dX9_gathers_52 : decode cX9_gathers 52 = .ok (.iconst (-1), 1) := by decide +kernel
theorem dX9_gathers_53 : decode cX9_gathers 53 = .ok (.if_icmp .ne 27, 3) := by decide +kernel
theorem dX9_gathers_56 : decode cX9_gathers 56 = .ok (.aload_n 0, 1) := by decide +kernel
theorem dX9_gathers_57 : decode cX9_gathers 57 = .ok (.getfield 29, 3) := by decide +kernel
theorem dX9_gathers_60 : decode cX9_gathers 60 = .ok (.iload_n 1, 1) := by decide +kernel
theorem dX9_gathers_61 : decode cX9_gathers 61 = .ok (.aload_n 0, 1) := by decide +kernel
theorem dX9_gathers_62 : decode cX9_gathers 62 = .ok (.getfield 99, 3) := by decide +kernel
theorem dX9_gathers_65 : decode cX9_gathers 65 = .ok (.iastore, 1) := by decide +kernel
theorem dX9_gathers_66 : decode cX9_gathers 66 = .ok (.aload_n 0, 1) := by decide +kernel
theorem dX9_gathers_67 : decode cX9_gathers 67 = .ok (.invokevirtual 102, 3) := by decide +kernel
theorem dX9_gathers_70 : decode cX9_gathers 70 = .ok (.aload_n 0, 1) := by decide +kernel
theorem dX9_gathers_71 : decode cX9_gathers 71 = .ok (.dup, 1) := by decide +kernel
theorem dX9_gathers_72 : decode cX9_gathers 72 = .ok (.getfield 99, 3) := by decide +kernel
theorem dX9_gathers_75 : decode cX9_gathers 75 = .ok (.iconst 1, 1) := by decide +kernel
theorem dX9_gathers_76 : decode cX9_gathers 76 = .ok (.iadd, 1) := by decide +kernel
theorem dX9_gathers_77 : decode cX9_gathers 77 = .ok (.putfield 99, 3) := by decide +kernel
theorem dX9_gathers_80 : decode cX9_gathers 80 = .ok (.iinc 1 1, 3) := by decide +kernel
theorem dX9_gathers_83 : decode cX9_gathers 83 = .ok (.goto (-55), 3) := by decide +kernel
theorem dX9_gathers_86 : decode cX9_gathers 86 = .ok (.return_, 1) := by decide +kernel
theorem dX9_spreads_0 : decode cX9_spreads 0 = .ok (.iconst 1, 1) := by decide +kernel
theorem dX9_spreads_1 : decode cX9_spreads 1 = .ok (.istore_n 1, 1) := by decide +kernel
theorem dX9_spreads_2 : decode cX9_spreads 2 = .ok (.iload_n 1, 1) := by decide +kernel
theorem dX9_spreads_3 : decode cX9_spreads 3 = .ok (.ifCond .eq 143, 3) := by decide +kernel
theorem dX9_spreads_6 : decode cX9_spreads 6 = .ok (.iconst 0, 1) := by decide +kernel
theorem dX9_spreads_7 : decode cX9_spreads 7 = .ok (.istore_n 1, 1) := by decide +kernel
theorem dX9_spreads_8 : decode cX9_spreads 8 = .ok (.iconst 0, 1) := by decide +kernel
end
section
theorem dX9_spreads_9 : decode cX9_spreads 9 = .ok (.istore_n 2, 1) := by decide +kernel
theorem dX9_spreads_10 : decode cX9_spreads 10 = .ok (.iload_n 2, 1) := by decide +kernel
theorem dX9_spreads_11 : decode cX9_spreads 11 = .ok (.aload_n 0, 1) := by decide +kernel
theorem dX9_spreads_12 : decode cX9_spreads 12 = .ok (.getfield 7, 3) := by decide +kernel
theorem dX9_spreads_15 : decode cX9_spreads 15 = .ok (.iconst 2, 1) := by decide +kernel
theorem dX9_spreads_16 : decode cX9_spreads 16 = .ok (.iaload, 1) := by decide +kernel
theorem dX9_spreads_17 : decode cX9_spreads 17 = .ok (.if_icmp .ge 126, 3) := by decide +kernel
theorem dX9_spreads_20 : decode cX9_spreads 20 = .ok (.iconst 0, 1) := by decide +kernel
theorem dX9_spreads_21 : decode cX9_spreads 21 = .ok (.istore_n 3, 1) := by decide +kernel
theorem dX9_spreads_22 : decode cX9_spreads 22 = .ok (.iload_n 3, 1) := by decide +kernel
theorem dX9_spreads_23 : decode cX9_spreads 23 = .ok (.iconst 4, 1) := by decide +kernel
theorem dX9_spreads_24 : decode cX9_spreads 24 = .ok (.if_icmp .ge 113, 3) := by decide +kernel
theorem dX9_spreads_27 : decode cX9_spreads 27 = .ok (.aload_n 0, 1) := by decide +kernel
theorem dX9_spreads_28 : decode cX9_spreads 28 = .ok (.getfield 29, 3) := by decide +kernel
theorem dX9_spreads_31 : decode cX9_spreads 31 = .ok (.iload_n 2, 1) := by decide +kernel
theorem dX9_spreads_32 : decode cX9_spreads 32 = .ok (.iaload, 1) := by decide +kernel
theorem dX9_spreads_33 : decode cX9_spreads 33 = .ok (.aload_n 0, 1) := by decide +kernel
theorem dX9_spreads_34 : decode cX9_spreads 34 = .ok (.getfield 99, 3) := by decide +kernel
theorem dX9_spreads_37 : decode cX9_spreads 37 = .ok (.if_icmp .ne 100, 3) := by decide +kernel
theorem dX9_spreads_40 : decode cX9_spreads 40 = .ok (.aload_n 0, 1) := by decide +kernel
theorem dX9_spreads_41 : decode cX9_spreads 41 = .ok (.aload_n 0, 1) := by decide +kernel
theorem dX9_spreads_42 : decode cX9_spreads 42 = .ok (.getfield 7, 3) := by decide +kernel
theorem dX9_spreads_45 : decode cX9_spreads 45 = .ok (.bipush 123, 2) := by decide +kernel
theorem dX9_spreads_47 : decode cX9_spreads 47 = .ok (.iload_n 2, 1) := by decide +kernel
theorem dX9_spreads_48 : decode cX9_spreads 48 = .ok (.iadd, 1) := by decide +kernel
theorem dX9_spreads_49 : decode cX9_spreads 49 = .ok (.iaload, 1) := by decide +kernel
theorem dX9_spreads_50 : decode cX9_spreads 50 = .ok (.iload_n 3, 1) := by decide +kernel
theorem dX9_spreads_51 : decode cX9_spreads 51 = .ok (.invokevirtual 62, 3) := by decide +kernel
theorem dX9_spreads_54 : decode cX9_spreads 54 = .ok (.istore 4, 2) := by decide +kernel
theorem dX9_spreads_56 : decode cX9_spreads 56 = .ok (.iload 4, 2) := by decide +kernel
theorem dX9_spreads_58 : decode cX9_spreads 58 = .ok (.iconst (-1), 1) := by decide +kernel
theorem dX9_spreads_59 : decode cX9_spreads 59 = .ok (.if_icmp .ne 7, 3) := by decide +kernel
theorem dX9_spreads_62 : decode cX9_spreads 62 = .ok (.iconst (-1), 1) := by decide +kernel
theorem dX9_spreads_63 : decode cX9_spreads 63 = .ok (.goto 9, 3) := by decide +kernel
theorem dX9_spreads_66 : decode cX9_spreads 66 = .ok (.aload_n 0, 1) := by decide +kernel
theorem dX9_spreads_67 : decode cX9_spreads 67 = .ok (.iload 4, 2) := by decide +kernel
theorem dX9_spreads_69 : decode cX9_spreads 69 = .ok (.invokevirtual 66, 3) := by decide +kernel
theorem dX9_spreads_72 : decode cX9_spreads 72 = .ok (.istore 5, 2) := by decide +kernel
theorem dX9_spreads_74 : decode cX9_spreads 74 = .ok (.iload 5, 2) := by decide +kernel
theorem dX9_spreads_76 : decode cX9_spreads 76 = .ok (.iconst (-1), 1) := by decide +kernel
theorem dX9_spreads_77 : decode cX9_spreads 77 = .ok (.if_icmp .eq 54, 3) := by decide +kernel
theorem dX9_spreads_80 : decode cX9_spreads 80 = .ok (.aload_n 0, 1) := by decide +kernel
theorem dX9_spreads_81 : decode cX9_spreads 81 = .ok (.getfield 29, 3) := by decide +kernel
theorem dX9_spreads_84 : decode cX9_spreads 84 = .ok (.iload 5, 2) := by decide +kernel
theorem dX9_spreads_86 : decode cX9_spreads 86 = .ok (.iaload, 1) := by decide +kernel
theorem dX9_spreads_87 : decode cX9_spreads 87 = .ok (.iconst (-1), 1) := by decide +kernel
theorem dX9_spreads_88 : decode cX9_spreads 88 = .ok (.if_icmp .ne 43, 3) := by decide +kernel
theorem dX9_spreads_91 : decode cX9_spreads 91 = .ok (.aload_n 0, 1) := by decide +kernel
theorem dX9_spreads_92 : decode cX9_spreads 92 = .ok (.iload_n 2, 1) := by decide +kernel
theorem dX9_spreads_93 : decode cX9_spreads 93 = .ok (.aload_n 0, 1) := by decide +kernel
theorem dX9_spreads_94 : decode cX9_spreads 94 = .ok (.getfield 7, 3) := by decide +kernel
theorem dX9_spreads_97 : decode cX9_spreads 97 = .ok (.bipush 123, 2) := by decide +kernel
theorem dX9_spreads_99 : decode cX9_spreads 99 = .ok (.iload_n 2, 1) := by decide +kernel
theorem dX9_spreads_100 : decode cX9_spreads 100 = .ok (.iadd, 1) := by decide +kernel
theorem dX9_spreads_101 : decode cX9_spreads 101 = .ok (.iaload, 1) := by decide +kernel
theorem dX9_spreads_102 : decode cX9_spreads 102 = .ok (.aload_n 0, 1) := by decide +kernel
theorem dX9_spreads_103 : decode cX9_spreads 103 = .ok (.getfield 7, 3) := by decide +kernel
theorem dX9_spreads_106 : decode cX9_spreads 106 = .ok (.bipush 111, 2) := by decide +kernel
theorem dX9_spreads_108 : decode cX9_spreads 108 = .ok (.iload_n 2, 1) := by decide +kernel
theorem dX9_spreads_109 : decode cX9_spreads 109 = .ok (.iadd, 1) := by decide +kernel
theorem dX9_spreads_110 : decode cX9_spreads 110 = .ok (.iaload, 1) := by decide +kernel
theorem dX9_spreads_111 : decode cX9_spreads 111 = .ok (.iload_n 3, 1) := by decide +kernel
theorem dX9_spreads_112 : decode cX9_spreads 112 = .ok (.invokevirtual 69, 3) := by decide +kernel
theorem dX9_spreads_115 : decode cX9_spreads 115 = .ok (.ifCond .ne 16, 3) := by decide +kernel
theorem dX9_spreads_118 : decode cX9_spreads 118 = .ok (.aload_n 0, 1) := by decide +kernel
theorem dX9_spreads_119 : decode cX9_spreads 119 = .ok (.getfield 29, 3) := by decide +kernel
theorem dX9_spreads_122 : decode cX9_spreads 122 = .ok (.iload 5, 2) := by decide +kernel
theorem dX9_spreads_124 : decode cX9_spreads 124 = .ok (.aload_n 0, 1) := by decide +kernel
theorem dX9_spreads_125 : decode cX9_spreads 125 = .ok (.getfield 99, 3) := by decide +kernel
theorem dX9_spreads_128 : decode cX9_spreads 128 = .ok (.iastore, 1) := by decide +kernel
theorem dX9_spreads_129 : decode cX9_spreads 129 = .ok (.iconst 1, 1) := by decide +kernel
theorem dX9_spreads_130 : decode cX9_spreads 130 = .ok (.istore_n 1, 1) := by decide +kernel
theorem dX9_spreads_131 : decode cX9_spreads 131 = .ok (.iinc 3 1, 3) := by decide +kernel
theorem dX9_spreads_134 : decode cX9_spreads 134 = .ok (.goto (-112), 3) := by decide +kernel
theorem dX9_spreads_137 : decode cX9_spreads 137 = .ok (.iinc 2 1, 3) := by decide +kernel
theorem dX9_spreads_140 : decode cX9_spreads 140 = .ok (.goto (-130), 3) := by decide +kernel
theorem dX9_spreads_143 : decode cX9_spreads 143 = .ok (.goto (-141), 3) := by decide +kernel
theorem dX9_spreads_146 : decode cX9_spreads 146 = .ok (.return_, 1) := by decide +kernel
theorem dX9_count_0 : decode cX9_count 0 = .ok (.iload_n 1, 1) := by decide +kernel
theorem dX9_count_1 : decode cX9_count 1 = .ok (.iconst 0, 1) := by decide +kernel
theorem dX9_count_2 : decode cX9_count 2 = .ok (.bipush 11, 2) := by decide +kernel
theorem dX9_count_4 : decode cX9_count 4 = .ok (.invokestatic 38, 3) := by decide +kernel
theorem dX9_count_7 : decode cX9_count 7 = .ok (.ifCond .ne 7, 3) := by decide +kernel
theorem dX9_count_10 : decode cX9_count 10 = .ok (.sipush (-1001), 3) := by decide +kernel
theorem dX9_count_13 : decode cX9_count 13 = .ok (.ireturn, 1) := by decide +kernel
theorem dX9_count_14 : decode cX9_count 14 = .ok (.iconst 0, 1) := by decide +kernel
theorem dX9_count_15 : decode cX9_count 15 = .ok (.istore_n 2, 1) := by decide +kernel
theorem dX9_count_16 : decode cX9_count 16 = .ok (.iconst 0, 1) := by decide +kernel
theorem dX9_count_17 : decode cX9_count 17 = .ok (.istore_n 3, 1) := by decide +kernel
theorem dX9_count_18 : decode cX9_count 18 = .ok (.iconst 0, 1) := by decide +kernel
theorem dX9_count_19 : decode cX9_count 19 = .ok (.istore 4, 2) := by decide +kernel
theorem dX9_count_21 : decode cX9_count 21 = .ok (.iconst 0, 1) := by decide +kernel
theorem dX9_count_22 : decode cX9_count 22 = .ok (.istore 5, 2) := by decide +kernel
theorem dX9_count_24 : decode cX9_count 24 = .ok (.iconst 0, 1) := by decide +kernel
theorem dX9_count_25 : decode cX9_count 25 = .ok (.istore 6, 2) := by decide +kernel
theorem dX9_count_27 : decode cX9_count 27 = .ok (.iconst 0, 1) := by decide +kernel
theorem dX9_count_28 : decode cX9_count 28 = .ok (.istore 7, 2) := by decide +kernel
theorem dX9_count_30 : decode cX9_count 30 = .ok (.iload 7, 2) := by decide +kernel
theorem dX9_count_32 : decode cX9_count 32 = .ok (.aload_n 0, 1) := by decide +kernel
theorem dX9_count_33 : decode cX9_count 33 = .ok (.getfield 7, 3) := by decide +kernel
theorem dX9_count_36 : decode cX9_count 36 = .ok (.iconst 2, 1) := by decide +kernel
theorem dX9_count_37 : decode cX9_count 37 = .ok (.iaload, 1) := by decide +kernel
theorem dX9_count_38 : decode cX9_count 38 = .ok (.if_icmp .ge 210, 3) := by decide +kernel
theorem dX9_count_41 : decode cX9_count 41 = .ok (.iload_n 2, 1) := by decide +kernel
theorem dX9_count_42 : decode cX9_count 42 = .ok (.aload_n 0, 1) := by decide +kernel
theorem dX9_count_43 : decode cX9_count 43 = .ok (.iload 7, 2) := by decide +kernel
theorem dX9_count_45 : decode cX9_count 45 = .ok (.invokevirtual 76, 3) := by decide +kernel
theorem dX9_count_48 : decode cX9_count 48 = .ok (.ifCond .eq 7, 3) := by decide +kernel
theorem dX9_count_51 : decode cX9_count 51 = .ok (.iconst 1, 1) := by decide +kernel
theorem dX9_count_52 : decode cX9_count 52 = .ok (.goto 4, 3) := by decide +kernel
theorem dX9_count_55 : decode cX9_count 55 = .ok (.iconst 0, 1) := by decide +kernel
theorem dX9_count_56 : decode cX9_count 56 = .ok (.iadd, 1) := by decide +kernel
theorem dX9_count_57 : decode cX9_count 57 = .ok (.istore_n 2, 1) := by decide +kernel
theorem dX9_count_58 : decode cX9_count 58 = .ok (.iconst 0, 1) := by decide +kernel
theorem dX9_count_59 : decode cX9_count 59 = .ok (.istore 8, 2) := by decide +kernel
theorem dX9_count_61 : decode cX9_count 61 = .ok (.iload 8, 2) := by decide +kernel
theorem dX9_count_63 : decode cX9_count 63 = .ok (.iconst 4, 1) := by decide +kernel
theorem dX9_count_64 : decode cX9_count 64 = .ok (.if_icmp .ge 178, 3) := by decide +kernel
theorem dX9_count_67 : decode cX9_count 67 = .ok (.aload_n 0, 1) := by decide +kernel
theorem dX9_count_68 : decode cX9_count 68 = .ok (.iload 7, 2) := by decide +kernel
theorem dX9_count_70 : decode cX9_count 70 = .ok (.invokevirtual 76, 3) := by decide +kernel
theorem dX9_count_73 : decode cX9_count 73 = .ok (.ifCond .eq 169, 3) := by decide +kernel
theorem dX9_count_76 : decode cX9_count 76 = .ok (.aload_n 0, 1) := by decide +kernel
theorem dX9_count_77 : decode cX9_count 77 = .ok (.iload 7, 2) := by decide +kernel
theorem dX9_count_79 : decode cX9_count 79 = .ok (.aload_n 0, 1) := by decide +kernel
theorem dX9_count_80 : decode cX9_count 80 = .ok (.getfield 7, 3) := by decide +kernel
theorem dX9_count_83 : decode cX9_count 83 = .ok (.bipush 123, 2) := by decide +kernel
theorem dX9_count_85 : decode cX9_count 85 = .ok (.iload 7, 2) := by decide +kernel
theorem dX9_count_87 : decode cX9_count 87 = .ok (.iadd, 1) := by decide +kernel
theorem dX9_count_88 : decode cX9_count 88 = .ok (.iaload, 1) := by decide +kernel
theorem dX9_count_89 : decode cX9_count 89 = .ok (.aload_n 0, 1) := by decide +kernel
theorem dX9_count_90 : decode cX9_count 90 = .ok (.getfield 7, 3) := by decide +kernel
theorem dX9_count_93 : decode cX9_count 93 = .ok (.bipush 111, 2) := by decide +kernel
theorem dX9_count_95 : decode cX9_count 95 = .ok (.iload 7, 2) := by decide +kernel
theorem dX9_count_97 : decode cX9_count 97 = .ok (.iadd, 1) := by decide +kernel
theorem dX9_count_98 : decode cX9_count 98 = .ok (.iaload, 1) := by decide +kernel
theorem dX9_count_99 : decode cX9_count 99 = .ok (.iload 8, 2) := by decide +kernel
theorem dX9_count_101 : decode cX9_count 101 = .ok (.invokevirtual 69, 3) := by decide +kernel
theorem dX9_count_104 : decode cX9_count 104 = .ok (.istore 9, 2) := by decide +kernel
theorem dX9_count_106 : decode cX9_count 106 = .ok (.aload_n 0, 1) := by decide +kernel
theorem dX9_count_107 : decode cX9_count 107 = .ok (.aload_n 0, 1) := by decide +kernel
theorem dX9_count_108 : decode cX9_count 108 = .ok (.getfield 7, 3) := by decide +kernel
theorem dX9_count_111 : decode cX9_count 111 = .ok (.bipush 123, 2) := by decide +kernel
theorem dX9_count_113 : decode cX9_count 113 = .ok (.iload 7, 2) := by decide +kernel
theorem dX9_count_115 : decode cX9_count 115 = .ok (.iadd, 1) := by decide +kernel
theorem dX9_count_116 : decode cX9_count 116 = .ok (.iaload, 1) := by decide +kernel
theorem dX9_count_117 : decode cX9_count 117 = .ok (.iload 8, 2) := by decide +kernel
theorem dX9_count_119 : decode cX9_count 119 = .ok (.invokevirtual 62, 3) := by decide +kernel
theorem dX9_count_122 : decode cX9_count 122 = .ok (.iconst (-1), 1) := by decide +kernel
theorem dX9_count_123 : decode cX9_count 123 = .ok (.if_icmp .ne 7, 3) := by decide +kernel
theorem dX9_count_126 : decode cX9_count 126 = .ok (.iconst 1, 1) := by decide +kernel
theorem dX9_count_127 : decode cX9_count 127 = .ok (.goto 4, 3) := by decide +kernel
theorem dX9_count_130 : decode cX9_count 130 = .ok (.iconst 0, 1) := by decide +kernel
theorem dX9_count_131 : decode cX9_count 131 = .ok (.istore 10, 2) := by decide +kernel
theorem dX9_count_133 : decode cX9_count 133 = .ok (.iload 10, 2) := by decide +kernel
theorem dX9_count_135 : decode cX9_count 135 = .ok (.ifCond .ne 25, 3) := by decide +kernel
theorem dX9_count_138 : decode cX9_count 138 = .ok (.iload 9, 2) := by decide +kernel
theorem dX9_count_140 : decode cX9_count 140 = .ok (.iconst (-1), 1) := by decide +kernel
theorem dX9_count_141 : decode cX9_count 141 = .ok (.if_icmp .eq 19, 3) := by decide +kernel
theorem dX9_count_144 : decode cX9_count 144 = .ok (.iload 8, 2) := by decide +kernel
theorem dX9_count_146 : decode cX9_count 146 = .ok (.iconst 1, 1) := by decide +kernel
theorem dX9_count_147 : decode cX9_count 147 = .ok (.if_icmp .eq 9, 3) := by decide +kernel
theorem dX9_count_150 : decode cX9_count 150 = .ok (.iload 8, 2) := by decide +kernel
theorem dX9_count_152 : decode cX9_count 152 = .ok (.iconst 2, 1) := by decide +kernel
theorem dX9_count_153 : decode cX9_count 153 = .ok (.if_icmp .ne 7, 3) := by decide +kernel
theorem dX9_count_156 : decode cX9_count 156 = .ok (.iconst 1, 1) := by decide +kernel
theorem dX9_count_157 : decode cX9_count 157 = .ok (.goto 4, 3) := by decide +kernel
theorem dX9_count_160 : decode cX9_count 160 = .ok (.iconst 0, 1) := by decide +kernel
theorem dX9_count_161 : decode cX9_count 161 = .ok (.istore 11, 2) := by decide +kernel
theorem dX9_count_163 : decode cX9_count 163 = .ok (.iload_n 3, 1) := by decide +kernel
theorem dX9_count_164 : decode cX9_count 164 = .ok (.iload 11, 2) := by decide +kernel
theorem dX9_count_166 : decode cX9_count 166 = .ok (.ifCond .eq 7, 3) := by decide +kernel
theorem dX9_count_169 : decode cX9_count 169 = .ok (.iconst 1, 1) := by decide +kernel
theorem dX9_count_170 : decode cX9_count 170 = .ok (.goto 4, 3) := by decide +kernel
theorem dX9_count_173 : decode cX9_count 173 = .ok (.iconst 0, 1) := by decide +kernel
theorem dX9_count_174 : decode cX9_count 174 = .ok (.iadd, 1) := by decide +kernel
theorem dX9_count_175 : decode cX9_count 175 = .ok (.istore_n 3, 1) := by decide +kernel
theorem dX9_count_176 : decode cX9_count 176 = .ok (.iload 4, 2) := by decide +kernel
theorem dX9_count_178 : decode cX9_count 178 = .ok (.iload 11, 2) := by decide +kernel
theorem dX9_count_180 : decode cX9_count 180 = .ok (.ifCond .eq 12, 3) := by decide +kernel
theorem dX9_count_183 : decode cX9_count 183 = .ok (.iload 9, 2) := by decide +kernel
theorem dX9_count_185 : decode cX9_count 185 = .ok (.ifCond .ne 7, 3) := by decide +kernel
theorem dX9_count_188 : decode cX9_count 188 = .ok (.iconst 1, 1) := by decide +kernel
theorem dX9_count_189 : decode cX9_count 189 = .ok (.goto 4, 3) := by decide +kernel
theorem dX9_count_192 : decode cX9_count 192 = .ok (.iconst 0, 1) := by decide +kernel
theorem dX9_count_193 : decode cX9_count 193 = .ok (.iadd, 1) := by decide +kernel
theorem dX9_count_194 : decode cX9_count 194 = .ok (.istore 4, 2) := by decide +kernel
theorem dX9_count_196 : decode cX9_count 196 = .ok (.iload 5, 2) := by decide +kernel
theorem dX9_count_198 : decode cX9_count 198 = .ok (.iload 10, 2) := by decide +kernel
theorem dX9_count_200 : decode cX9_count 200 = .ok (.ifCond .eq 12, 3) := by decide +kernel
theorem dX9_count_203 : decode cX9_count 203 = .ok (.iload 9, 2) := by decide +kernel
theorem dX9_count_205 : decode cX9_count 205 = .ok (.ifCond .ne 7, 3) := by decide +kernel
theorem dX9_count_208 : decode cX9_count 208 = .ok (.iconst 1, 1) := by decide +kernel
theorem dX9_count_209 : decode cX9_count 209 = .ok (.goto 4, 3) := by decide +kernel
theorem dX9_count_212 : decode cX9_count 212 = .ok (.iconst 0, 1) := by decide +kernel
theorem dX9_count_213 : decode cX9_count 213 = .ok (.iadd, 1) := by decide +kernel
theorem dX9_count_214 : decode cX9_count 214 = .ok (.istore 5, 2) := by decide +kernel
theorem dX9_count_216 : decode cX9_count 216 = .ok (.iload 6, 2) := by decide +kernel
theorem dX9_count_218 : decode cX9_count 218 = .ok (.iload 10, 2) := by decide +kernel
theorem dX9_count_220 : decode cX9_count 220 = .ok (.ifCond .eq 12, 3) := by decide +kernel
theorem dX9_count_223 : decode cX9_count 223 = .ok (.iload 9, 2) := by decide +kernel
theorem dX9_count_225 : decode cX9_count 225 = .ok (.ifCond .eq 7, 3) := by decide +kernel
theorem dX9_count_228 : decode cX9_count 228 = .ok (.iconst 1, 1) := by decide +kernel
theorem dX9_count_229 : decode cX9_count 229 = .ok (.goto 4, 3) := by decide +kernel
theorem dX9_count_232 : decode cX9_count 232 = .ok (.iconst 0, 1) := by decide +kernel
theorem dX9_count_233 : decode cX9_count 233 = .ok (.iadd, 1) := by decide +kernel
theorem dX9_count_234 : decode cX9_count 234 = .ok (.istore 6, 2) := by decide +kernel
theorem dX9_count_236 : decode cX9_count 236 = .ok (.iinc 8 1, 3) := by decide +kernel
theorem dX9_count_239 : decode cX9_count 239 = .ok (.goto (-178), 3) := by decide +kernel
theorem dX9_count_242 : decode cX9_count 242 = .ok (.iinc 7 1, 3) := by decide +kernel
theorem dX9_count_245 : decode cX9_count 245 = .ok (.goto (-215), 3) := by decide +kernel
theorem dX9_count_248 : decode cX9_count 248 = .ok (.iload_n 1, 1) := by decide +kernel
theorem dX9_count_249 : decode cX9_count 249 = .ok (.tableswitch 109 0 10 #[59, 66, 68, 68, 77, 86, 88, 91, 94, 97, 104], 59) := by decide +kernel
theorem dX9_count_308 : decode cX9_count 308 = .ok (.aload_n 0, 1) := by decide +kernel
theorem dX9_count_309 : decode cX9_count 309 = .ok (.getfield 7, 3) := by decide +kernel
theorem dX9_count_312 : decode cX9_count 312 = .ok (.iconst 2, 1) := by decide +kernel
theorem dX9_count_313 : decode cX9_count 313 = .ok (.iaload, 1) := by decide +kernel
theorem dX9_count_314 : decode cX9_count 314 = .ok (.ireturn, 1) := by decide +kernel
theorem dX9_count_315 : decode cX9_count 315 = .ok (.iload_n 2, 1) := by decide +kernel
theorem dX9_count_316 : decode cX9_count 316 = .ok (.ireturn, 1) := by decide +kernel
theorem dX9_count_317 : decode cX9_count 317 = .ok (.aload_n 0, 1) := by decide +kernel
theorem dX9_count_318 : decode cX9_count 318 = .ok (.getfield 7, 3) := by decide +kernel
theorem dX9_count_321 : decode cX9_count 321 = .ok (.iload_n 1, 1) := by decide +kernel
theorem dX9_count_322 : decode cX9_count 322 = .ok (.iconst 2, 1) := by decide +kernel
theorem dX9_count_323 : decode cX9_count 323 = .ok (.isub, 1) := by decide +kernel
theorem dX9_count_324 : decode cX9_count 324 = .ok (.iaload, 1) := by decide +kernel
theorem dX9_count_325 : decode cX9_count 325 = .ok (.ireturn, 1) := by decide +kernel
theorem dX9_count_326 : decode cX9_count 326 = .ok (.aload_n 0, 1) := by decide +kernel
theorem dX9_count_327 : decode cX9_count 327 = .ok (.invokevirtual 89, 3) := by decide +kernel
theorem dX9_count_330 : decode cX9_count 330 = .ok (.aload_n 0, 1) := by decide +kernel
theorem dX9_count_331 : decode cX9_count 331 = .ok (.getfield 99, 3) := by decide +kernel
theorem dX9_count_334 : decode cX9_count 334 = .ok (.ireturn, 1) := by decide +kernel
theorem dX9_count_335 : decode cX9_count 335 = .ok (.iload_n 3, 1) := by decide +kernel
theorem dX9_count_336 : decode cX9_count 336 = .ok (.ireturn, 1) := by decide +kernel
theorem dX9_count_337 : decode cX9_count 337 = .ok (.iload 4, 2) := by decide +kernel
theorem dX9_count_339 : decode cX9_count 339 = .ok (.ireturn, 1) := by decide +kernel
theorem dX9_count_340 : decode cX9_count 340 = .ok (.iload 5, 2) := by decide +kernel
theorem dX9_count_342 : decode cX9_count 342 = .ok (.ireturn, 1) := by decide +kernel
theorem dX9_count_343 : decode cX9_count 343 = .ok (.iload 6, 2) := by decide +kernel
theorem dX9_count_345 : decode cX9_count 345 = .ok (.ireturn, 1) := by decide +kernel
theorem dX9_count_346 : decode cX9_count 346 = .ok (.aload_n 0, 1) := by decide +kernel
theorem dX9_count_347 : decode cX9_count 347 = .ok (.invokevirtual 42, 3) := by decide +kernel
theorem dX9_count_350 : decode cX9_count 350 = .ok (.iload_n 2, 1) := by decide +kernel
theorem dX9_count_351 : decode cX9_count 351 = .ok (.isub, 1) := by decide +kernel
theorem dX9_count_352 : decode cX9_count 352 = .ok (.ireturn, 1) := by decide +kernel
theorem dX9_count_353 : decode cX9_count 353 = .ok (.aload_n 0, 1) := by decide +kernel
theorem dX9_count_354 : decode cX9_count 354 = .ok (.getfield 46, 3) := by decide +kernel
theorem dX9_count_357 : decode cX9_count 357 = .ok (.ireturn, 1) := by decide +kernel
theorem dX9_count_358 : decode cX9_count 358 = .ok (.aload_n 0, 1) := by decide +kernel
theorem dX9_count_359 : decode cX9_count 359 = .ok (.getfield 105, 3) := by decide +kernel
theorem dX9_count_362 : decode cX9_count 362 = .ok (.ireturn, 1) := by decide +kernel
theorem dX9_puts_0 : decode cX9_puts 0 = .ok (.aload_n 0, 1) := by decide +kernel
theorem dX9_puts_1 : decode cX9_puts 1 = .ok (.getfield 7, 3) := by decide +kernel
theorem dX9_puts_4 : decode cX9_puts 4 = .ok (.bipush 123, 2) := by decide +kernel
theorem dX9_puts_6 : decode cX9_puts 6 = .ok (.iload_n 1, 1) := by decide +kernel
theorem dX9_puts_7 : decode cX9_puts 7 = .ok (.iadd, 1) := by decide +kernel
theorem dX9_puts_8 : decode cX9_puts 8 = .ok (.iload_n 2, 1) := by decide +kernel
theorem dX9_puts_9 : decode cX9_puts 9 = .ok (.iastore, 1) := by decide +kernel
theorem dX9_puts_10 : decode cX9_puts 10 = .ok (.aload_n 0, 1) := by decide +kernel
theorem dX9_puts_11 : decode cX9_puts 11 = .ok (.getfield 7, 3) := by decide +kernel
theorem dX9_puts_14 : decode cX9_puts 14 = .ok (.bipush 111, 2) := by decide +kernel
theorem dX9_puts_16 : decode cX9_puts 16 = .ok (.iload_n 1, 1) := by decide +kernel
theorem dX9_puts_17 : decode cX9_puts 17 = .ok (.iadd, 1) := by decide +kernel
theorem dX9_puts_18 : decode cX9_puts 18 = .ok (.iload_n 3, 1) := by decide +kernel
theorem dX9_puts_19 : decode cX9_puts 19 = .ok (.iastore, 1) := by decide +kernel
theorem dX9_puts_20 : decode cX9_puts 20 = .ok (.return_, 1) := by decide +kernel
theorem dX9_canLie_0 : decode cX9_canLie 0 = .ok (.aload_n 0, 1) := by decide +kernel
theorem dX9_canLie_1 : decode cX9_canLie 1 = .ok (.iload_n 1, 1) := by decide +kernel
theorem dX9_canLie_2 : decode cX9_canLie 2 = .ok (.iload_n 2, 1) := by decide +kernel
theorem dX9_canLie_3 : decode cX9_canLie 3 = .ok (.iload_n 3, 1) := by decide +kernel
theorem dX9_canLie_4 : decode cX9_canLie 4 = .ok (.iconst 0, 1) := by decide +kernel
theorem dX9_canLie_5 : decode cX9_canLie 5 = .ok (.invokevirtual 92, 3) := by decide +kernel
theorem dX9_canLie_8 : decode cX9_canLie 8 = .ok (.ifCond .ne 7, 3) := by decide +kernel
theorem dX9_canLie_11 : decode cX9_canLie 11 = .ok (.iconst 1, 1) := by decide +kernel
theorem dX9_canLie_12 : decode cX9_canLie 12 = .ok (.goto 4, 3) := by decide +kernel
theorem dX9_canLie_15 : decode cX9_canLie 15 = .ok (.iconst 0, 1) := by decide +kernel
theorem dX9_canLie_16 : decode cX9_canLie 16 = .ok (.ireturn, 1) := by decide +kernel
theorem dX9_isLaying_0 : decode cX9_isLaying 0 = .ok (.aload_n 0, 1) := by decide +kernel
theorem dX9_isLaying_1 : decode cX9_isLaying 1 = .ok (.iload_n 1, 1) := by decide +kernel
theorem dX9_isLaying_2 : decode cX9_isLaying 2 = .ok (.invokevirtual 86, 3) := by decide +kernel
theorem dX9_isLaying_5 : decode cX9_isLaying 5 = .ok (.ifCond .eq 25, 3) := by decide +kernel
theorem dX9_isLaying_8 : decode cX9_isLaying 8 = .ok (.aload_n 0, 1) := by decide +kernel
theorem dX9_isLaying_9 : decode cX9_isLaying 9 = .ok (.iload_n 2, 1) := by decide +kernel
theorem dX9_isLaying_10 : decode cX9_isLaying 10 = .ok (.invokevirtual 108, 3) := by decide +kernel
theorem dX9_isLaying_13 : decode cX9_isLaying 13 = .ok (.ifCond .eq 17, 3) := by decide +kernel
theorem dX9_isLaying_16 : decode cX9_isLaying 16 = .ok (.iload_n 3, 1) := by decide +kernel
theorem dX9_isLaying_17 : decode cX9_isLaying 17 = .ok (.iconst 0, 1) := by decide +kernel
theorem dX9_isLaying_18 : decode cX9_isLaying 18 = .ok (.bipush 7, 2) := by decide +kernel
theorem dX9_isLaying_20 : decode cX9_isLaying 20 = .ok (.invokestatic 38, 3) := by decide +kernel
theorem dX9_isLaying_23 : decode cX9_isLaying 23 = .ok (.ifCond .eq 7, 3) := by decide +kernel
theorem dX9_isLaying_26 : decode cX9_isLaying 26 = .ok (.iconst 1, 1) := by decide +kernel
theorem dX9_isLaying_27 : decode cX9_isLaying 27 = .ok (.goto 4, 3) := by decide +kernel
theorem dX9_isLaying_30 : decode cX9_isLaying 30 = .ok (.iconst 0, 1) := by decide +kernel
theorem dX9_isLaying_31 : decode cX9_isLaying 31 = .ok (.ireturn, 1) := by decide +kernel
theorem dX9_lay_0 : decode cX9_lay 0 = .ok (.aload_n 0, 1) := by decide +kernel
theorem dX9_lay_1 : decode cX9_lay 1 = .ok (.iload_n 1, 1) := by decide +kernel
theorem dX9_lay_2 : decode cX9_lay 2 = .ok (.iload_n 2, 1) := by decide +kernel
theorem dX9_lay_3 : decode cX9_lay 3 = .ok (.iload_n 3, 1) := by decide +kernel
theorem dX9_lay_4 : decode cX9_lay 4 = .ok (.invokevirtual 111, 3) := by decide +kernel
theorem dX9_lay_7 : decode cX9_lay 7 = .ok (.ifCond .ne 7, 3) := by decide +kernel
theorem dX9_lay_10 : decode cX9_lay 10 = .ok (.sipush (-1001), 3) := by decide +kernel
theorem dX9_lay_13 : decode cX9_lay 13 = .ok (.ireturn, 1) := by decide +kernel
theorem dX9_lay_14 : decode cX9_lay 14 = .ok (.aload_n 0, 1) := by decide +kernel
theorem dX9_lay_15 : decode cX9_lay 15 = .ok (.iload_n 1, 1) := by decide +kernel
theorem dX9_lay_16 : decode cX9_lay 16 = .ok (.invokevirtual 76, 3) := by decide +kernel
theorem dX9_lay_19 : decode cX9_lay 19 = .ok (.ifCond .ne 22, 3) := by decide +kernel
theorem dX9_lay_22 : decode cX9_lay 22 = .ok (.aload_n 0, 1) := by decide +kernel
theorem dX9_lay_23 : decode cX9_lay 23 = .ok (.iload_n 2, 1) := by decide +kernel
theorem dX9_lay_24 : decode cX9_lay 24 = .ok (.invokevirtual 66, 3) := by decide +kernel
theorem dX9_lay_27 : decode cX9_lay 27 = .ok (.iconst (-1), 1) := by decide +kernel
theorem dX9_lay_28 : decode cX9_lay 28 = .ok (.if_icmp .ne 13, 3) := by decide +kernel
theorem dX9_lay_31 : decode cX9_lay 31 = .ok (.aload_n 0, 1) := by decide +kernel
theorem dX9_lay_32 : decode cX9_lay 32 = .ok (.iload_n 1, 1) := by decide +kernel
theorem dX9_lay_33 : decode cX9_lay 33 = .ok (.iload_n 2, 1) := by decide +kernel
theorem dX9_lay_34 : decode cX9_lay 34 = .ok (.iload_n 3, 1) := by decide +kernel
theorem dX9_lay_35 : decode cX9_lay 35 = .ok (.invokevirtual 114, 3) := by decide +kernel
theorem dX9_lay_38 : decode cX9_lay 38 = .ok (.ifCond .ne 7, 3) := by decide +kernel
theorem dX9_lay_41 : decode cX9_lay 41 = .ok (.sipush (-1002), 3) := by decide +kernel
theorem dX9_lay_44 : decode cX9_lay 44 = .ok (.ireturn, 1) := by decide +kernel
theorem dX9_lay_45 : decode cX9_lay 45 = .ok (.aload_n 0, 1) := by decide +kernel
theorem dX9_lay_46 : decode cX9_lay 46 = .ok (.invokevirtual 73, 3) := by decide +kernel
theorem dX9_lay_49 : decode cX9_lay 49 = .ok (.aload_n 0, 1) := by decide +kernel
theorem dX9_lay_50 : decode cX9_lay 50 = .ok (.iload_n 1, 1) := by decide +kernel
theorem dX9_lay_51 : decode cX9_lay 51 = .ok (.iload_n 2, 1) := by decide +kernel
theorem dX9_lay_52 : decode cX9_lay 52 = .ok (.iload_n 3, 1) := by decide +kernel
theorem dX9_lay_53 : decode cX9_lay 53 = .ok (.invokevirtual 117, 3) := by decide +kernel
theorem dX9_lay_56 : decode cX9_lay 56 = .ok (.aload_n 0, 1) := by decide +kernel
theorem dX9_lay_57 : decode cX9_lay 57 = .ok (.iload_n 1, 1) := by decide +kernel
theorem dX9_lay_58 : decode cX9_lay 58 = .ok (.iload_n 2, 1) := by decide +kernel
theorem dX9_lay_59 : decode cX9_lay 59 = .ok (.invokevirtual 121, 3) := by decide +kernel
theorem dX9_lay_62 : decode cX9_lay 62 = .ok (.ireturn, 1) := by decide +kernel
theorem dX9_force_0 : decode cX9_force 0 = .ok (.aload_n 0, 1) := by decide +kernel
theorem dX9_force_1 : decode cX9_force 1 = .ok (.iload_n 1, 1) := by decide +kernel
theorem dX9_force_2 : decode cX9_force 2 = .ok (.iload_n 2, 1) := by decide +kernel
theorem dX9_force_3 : decode cX9_force 3 = .ok (.iload_n 3, 1) := by decide +kernel
theorem dX9_force_4 : decode cX9_force 4 = .ok (.invokevirtual 111, 3) := by decide +kernel
theorem dX9_force_7 : decode cX9_force 7 = .ok (.ifCond .ne 7, 3) := by decide +kernel
theorem dX9_force_10 : decode cX9_force 10 = .ok (.sipush (-1001), 3) := by decide +kernel
theorem dX9_force_13 : decode cX9_force 13 = .ok (.ireturn, 1) := by decide +kernel
theorem dX9_force_14 : decode cX9_force 14 = .ok (.aload_n 0, 1) := by decide +kernel
theorem dX9_force_15 : decode cX9_force 15 = .ok (.iload_n 1, 1) := by decide +kernel
theorem dX9_force_16 : decode cX9_force 16 = .ok (.invokevirtual 76, 3) := by decide +kernel
theorem dX9_force_19 : decode cX9_force 19 = .ok (.ifCond .ne 12, 3) := by decide +kernel
theorem dX9_force_22 : decode cX9_force 22 = .ok (.aload_n 0, 1) := by decide +kernel
theorem dX9_force_23 : decode cX9_force 23 = .ok (.iload_n 2, 1) := by decide +kernel
theorem dX9_force_24 : decode cX9_force 24 = .ok (.invokevirtual 66, 3) := by decide +kernel
theorem dX9_force_27 : decode cX9_force 27 = .ok (.iconst (-1), 1) := by decide +kernel
theorem dX9_force_28 : decode cX9_force 28 = .ok (.if_icmp .eq 7, 3) := by decide +kernel
theorem dX9_force_31 : decode cX9_force 31 = .ok (.sipush (-1002), 3) := by decide +kernel
theorem dX9_force_34 : decode cX9_force 34 = .ok (.ireturn, 1) := by decide +kernel
theorem dX9_force_35 : decode cX9_force 35 = .ok (.aload_n 0, 1) := by decide +kernel
theorem dX9_force_36 : decode cX9_force 36 = .ok (.invokevirtual 73, 3) := by decide +kernel
theorem dX9_force_39 : decode cX9_force 39 = .ok (.aload_n 0, 1) := by decide +kernel
theorem dX9_force_40 : decode cX9_force 40 = .ok (.iload_n 1, 1) := by decide +kernel
theorem dX9_force_41 : decode cX9_force 41 = .ok (.iload_n 2, 1) := by decide +kernel
theorem dX9_force_42 : decode cX9_force 42 = .ok (.iload_n 3, 1) := by decide +kernel
theorem dX9_force_43 : decode cX9_force 43 = .ok (.invokevirtual 117, 3) := by decide +kernel
theorem dX9_force_46 : decode cX9_force 46 = .ok (.aload_n 0, 1) := by decide +kernel
theorem dX9_force_47 : decode cX9_force 47 = .ok (.iload_n 1, 1) := by decide +kernel
theorem dX9_force_48 : decode cX9_force 48 = .ok (.iload_n 2, 1) := by decide +kernel
theorem dX9_force_49 : decode cX9_force 49 = .ok (.iload_n 3, 1) := by decide +kernel
theorem dX9_force_50 : decode cX9_force 50 = .ok (.iconst 0, 1) := by decide +kernel
theorem dX9_force_51 : decode cX9_force 51 = .ok (.invokevirtual 92, 3) := by decide +kernel
theorem dX9_force_54 : decode cX9_force 54 = .ok (.ireturn, 1) := by decide +kernel
theorem dX9_lift_0 : decode cX9_lift 0 = .ok (.aload_n 0, 1) := by decide +kernel
theorem dX9_lift_1 : decode cX9_lift 1 = .ok (.iload_n 1, 1) := by decide +kernel
theorem dX9_lift_2 : decode cX9_lift 2 = .ok (.invokevirtual 86, 3) := by decide +kernel
theorem dX9_lift_5 : decode cX9_lift 5 = .ok (.ifCond .ne 7, 3) := by decide +kernel
theorem dX9_lift_8 : decode cX9_lift 8 = .ok (.sipush (-1001), 3) := by decide +kernel
theorem dX9_lift_11 : decode cX9_lift 11 = .ok (.ireturn, 1) := by decide +kernel
theorem dX9_lift_12 : decode cX9_lift 12 = .ok (.aload_n 0, 1) := by decide +kernel
theorem dX9_lift_13 : decode cX9_lift 13 = .ok (.iload_n 1, 1) := by decide +kernel
theorem dX9_lift_14 : decode cX9_lift 14 = .ok (.invokevirtual 76, 3) := by decide +kernel
theorem dX9_lift_17 : decode cX9_lift 17 = .ok (.ifCond .ne 7, 3) := by decide +kernel
theorem dX9_lift_20 : decode cX9_lift 20 = .ok (.sipush (-1002), 3) := by decide +kernel
theorem dX9_lift_23 : decode cX9_lift 23 = .ok (.ireturn, 1) := by decide +kernel
theorem dX9_lift_24 : decode cX9_lift 24 = .ok (.aload_n 0, 1) := by decide +kernel
theorem dX9_lift_25 : decode cX9_lift 25 = .ok (.invokevirtual 73, 3) := by decide +kernel
theorem dX9_lift_28 : decode cX9_lift 28 = .ok (.aload_n 0, 1) := by decide +kernel
theorem dX9_lift_29 : decode cX9_lift 29 = .ok (.getfield 7, 3) := by decide +kernel
theorem dX9_lift_32 : decode cX9_lift 32 = .ok (.bipush 123, 2) := by decide +kernel
theorem dX9_lift_34 : decode cX9_lift 34 = .ok (.iload_n 1, 1) := by decide +kernel
theorem dX9_lift_35 : decode cX9_lift 35 = .ok (.iadd, 1) := by decide +kernel
theorem dX9_lift_36 : decode cX9_lift 36 = .ok (.iaload, 1) := by decide +kernel
theorem dX9_lift_37 : decode cX9_lift 37 = .ok (.istore_n 2, 1) := by decide +kernel
theorem dX9_lift_38 : decode cX9_lift 38 = .ok (.aload_n 0, 1) := by decide +kernel
theorem dX9_lift_39 : decode cX9_lift 39 = .ok (.iload_n 1, 1) := by decide +kernel
theorem dX9_lift_40 : decode cX9_lift 40 = .ok (.iconst (-1), 1) := by decide +kernel
theorem dX9_lift_41 : decode cX9_lift 41 = .ok (.iconst 0, 1) := by decide +kernel
theorem dX9_lift_42 : decode cX9_lift 42 = .ok (.invokevirtual 117, 3) := by decide +kernel
theorem dX9_lift_45 : decode cX9_lift 45 = .ok (.iload_n 2, 1) := by decide +kernel
theorem dX9_lift_46 : decode cX9_lift 46 = .ok (.ireturn, 1) := by decide +kernel
theorem dX9_turn_0 : decode cX9_turn 0 = .ok (.aload_n 0, 1) := by decide +kernel
theorem dX9_turn_1 : decode cX9_turn 1 = .ok (.iload_n 1, 1) := by decide +kernel
theorem dX9_turn_2 : decode cX9_turn 2 = .ok (.invokevirtual 86, 3) := by decide +kernel
theorem dX9_turn_5 : decode cX9_turn 5 = .ok (.ifCond .eq 13, 3) := by decide +kernel
theorem dX9_turn_8 : decode cX9_turn 8 = .ok (.iload_n 2, 1) := by decide +kernel
theorem dX9_turn_9 : decode cX9_turn 9 = .ok (.iconst 0, 1) := by decide +kernel
theorem dX9_turn_10 : decode cX9_turn 10 = .ok (.bipush 7, 2) := by decide +kernel
theorem dX9_turn_12 : decode cX9_turn 12 = .ok (.invokestatic 38, 3) := by decide +kernel
theorem dX9_turn_15 : decode cX9_turn 15 = .ok (.ifCond .ne 7, 3) := by decide +kernel
theorem dX9_turn_18 : decode cX9_turn 18 = .ok (.sipush (-1001), 3) := by decide +kernel
theorem dX9_turn_21 : decode cX9_turn 21 = .ok (.ireturn, 1) := by decide +kernel
theorem dX9_turn_22 : decode cX9_turn 22 = .ok (.aload_n 0, 1) := by decide +kernel
theorem dX9_turn_23 : decode cX9_turn 23 = .ok (.iload_n 1, 1) := by decide +kernel
theorem dX9_turn_24 : decode cX9_turn 24 = .ok (.invokevirtual 76, 3) := by decide +kernel
theorem dX9_turn_27 : decode cX9_turn 27 = .ok (.ifCond .ne 7, 3) := by decide +kernel
theorem dX9_turn_30 : decode cX9_turn 30 = .ok (.sipush (-1002), 3) := by decide +kernel
theorem dX9_turn_33 : decode cX9_turn 33 = .ok (.ireturn, 1) := by decide +kernel
theorem dX9_turn_34 : decode cX9_turn 34 = .ok (.aload_n 0, 1) := by decide +kernel
theorem dX9_turn_35 : decode cX9_turn 35 = .ok (.invokevirtual 73, 3) := by decide +kernel
theorem dX9_turn_38 : decode cX9_turn 38 = .ok (.aload_n 0, 1) := by decide +kernel
theorem dX9_turn_39 : decode cX9_turn 39 = .ok (.getfield 7, 3) := by decide +kernel
theorem dX9_turn_42 : decode cX9_turn 42 = .ok (.bipush 111, 2) := by decide +kernel
theorem dX9_turn_44 : decode cX9_turn 44 = .ok (.iload_n 1, 1) := by decide +kernel
theorem dX9_turn_45 : decode cX9_turn 45 = .ok (.iadd, 1) := by decide +kernel
theorem dX9_turn_46 : decode cX9_turn 46 = .ok (.iload_n 2, 1) := by decide +kernel
theorem dX9_turn_47 : decode cX9_turn 47 = .ok (.iastore, 1) := by decide +kernel
theorem dX9_turn_48 : decode cX9_turn 48 = .ok (.aload_n 0, 1) := by decide +kernel
theorem dX9_turn_49 : decode cX9_turn 49 = .ok (.iload_n 1, 1) := by decide +kernel
theorem dX9_turn_50 : decode cX9_turn 50 = .ok (.aload_n 0, 1) := by decide +kernel
theorem dX9_turn_51 : decode cX9_turn 51 = .ok (.getfield 7, 3) := by decide +kernel
theorem dX9_turn_54 : decode cX9_turn 54 = .ok (.bipush 123, 2) := by decide +kernel
theorem dX9_turn_56 : decode cX9_turn 56 = .ok (.iload_n 1, 1) := by decide +kernel
theorem dX9_turn_57 : decode cX9_turn 57 = .ok (.iadd, 1) := by decide +kernel
theorem dX9_turn_58 : decode cX9_turn 58 = .ok (.iaload, 1) := by decide +kernel
theorem dX9_turn_59 : decode cX9_turn 59 = .ok (.iload_n 2, 1) := by decide +kernel
theorem dX9_turn_60 : decode cX9_turn 60 = .ok (.iconst 0, 1) := by decide +kernel
theorem dX9_turn_61 : decode cX9_turn 61 = .ok (.invokevirtual 92, 3) := by decide +kernel
theorem dX9_turn_64 : decode cX9_turn 64 = .ok (.ireturn, 1) := by decide +kernel
theorem dX9_at_0 : decode cX9_at 0 = .ok (.aload_n 0, 1) := by decide +kernel
theorem dX9_at_1 : decode cX9_at 1 = .ok (.iload_n 1, 1) := by decide +kernel
theorem dX9_at_2 : decode cX9_at 2 = .ok (.invokevirtual 108, 3) := by decide +kernel
theorem dX9_at_5 : decode cX9_at 5 = .ok (.ifCond .ne 7, 3) := by decide +kernel
theorem dX9_at_8 : decode cX9_at 8 = .ok (.sipush (-1001), 3) := by decide +kernel
theorem dX9_at_11 : decode cX9_at 11 = .ok (.ireturn, 1) := by decide +kernel
theorem dX9_at_12 : decode cX9_at 12 = .ok (.aload_n 0, 1) := by decide +kernel
theorem dX9_at_13 : decode cX9_at 13 = .ok (.iload_n 1, 1) := by decide +kernel
theorem dX9_at_14 : decode cX9_at 14 = .ok (.invokevirtual 66, 3) := by decide +kernel
theorem dX9_at_17 : decode cX9_at 17 = .ok (.istore_n 2, 1) := by decide +kernel
theorem dX9_at_18 : decode cX9_at 18 = .ok (.iload_n 2, 1) := by decide +kernel
theorem dX9_at_19 : decode cX9_at 19 = .ok (.iconst (-1), 1) := by decide +kernel
theorem dX9_at_20 : decode cX9_at 20 = .ok (.if_icmp .ne 9, 3) := by decide +kernel
theorem dX9_at_23 : decode cX9_at 23 = .ok (.sipush (-1004), 3) := by decide +kernel
theorem dX9_at_26 : decode cX9_at 26 = .ok (.goto 4, 3) := by decide +kernel
theorem dX9_at_29 : decode cX9_at 29 = .ok (.iload_n 2, 1) := by decide +kernel
theorem dX9_at_30 : decode cX9_at 30 = .ok (.ireturn, 1) := by decide +kernel
theorem dX9_reason_0 : decode cX9_reason 0 = .ok (.aload_n 0, 1) := by decide +kernel
theorem dX9_reason_1 : decode cX9_reason 1 = .ok (.iload_n 1, 1) := by decide +kernel
theorem dX9_reason_2 : decode cX9_reason 2 = .ok (.invokevirtual 108, 3) := by decide +kernel
theorem dX9_reason_5 : decode cX9_reason 5 = .ok (.ifCond .eq 12, 3) := by decide +kernel
theorem dX9_reason_8 : decode cX9_reason 8 = .ok (.iload_n 2, 1) := by decide +kernel
theorem dX9_reason_9 : decode cX9_reason 9 = .ok (.iconst 0, 1) := by decide +kernel
theorem dX9_reason_10 : decode cX9_reason 10 = .ok (.iconst 3, 1) := by decide +kernel
theorem dX9_reason_11 : decode cX9_reason 11 = .ok (.invokestatic 38, 3) := by decide +kernel
theorem dX9_reason_14 : decode cX9_reason 14 = .ok (.ifCond .ne 7, 3) := by decide +kernel
theorem dX9_reason_17 : decode cX9_reason 17 = .ok (.sipush (-1001), 3) := by decide +kernel
theorem dX9_reason_20 : decode cX9_reason 20 = .ok (.ireturn, 1) := by decide +kernel
theorem dX9_reason_21 : decode cX9_reason 21 = .ok (.aload_n 0, 1) := by decide +kernel
theorem dX9_reason_22 : decode cX9_reason 22 = .ok (.iload_n 1, 1) := by decide +kernel
theorem dX9_reason_23 : decode cX9_reason 23 = .ok (.invokevirtual 66, 3) := by decide +kernel
theorem dX9_reason_26 : decode cX9_reason 26 = .ok (.istore_n 3, 1) := by decide +kernel
theorem dX9_reason_27 : decode cX9_reason 27 = .ok (.iload_n 3, 1) := by decide +kernel
theorem dX9_reason_28 : decode cX9_reason 28 = .ok (.iconst (-1), 1) := by decide +kernel
theorem dX9_reason_29 : decode cX9_reason 29 = .ok (.if_icmp .ne 7, 3) := by decide +kernel
theorem dX9_reason_32 : decode cX9_reason 32 = .ok (.iconst (-1), 1) := by decide +kernel
theorem dX9_reason_33 : decode cX9_reason 33 = .ok (.goto 19, 3) := by decide +kernel
theorem dX9_reason_36 : decode cX9_reason 36 = .ok (.aload_n 0, 1) := by decide +kernel
theorem dX9_reason_37 : decode cX9_reason 37 = .ok (.iload_n 3, 1) := by decide +kernel
theorem dX9_reason_38 : decode cX9_reason 38 = .ok (.iload_n 1, 1) := by decide +kernel
theorem dX9_reason_39 : decode cX9_reason 39 = .ok (.aload_n 0, 1) := by decide +kernel
theorem dX9_reason_40 : decode cX9_reason 40 = .ok (.getfield 7, 3) := by decide +kernel
theorem dX9_reason_43 : decode cX9_reason 43 = .ok (.bipush 111, 2) := by decide +kernel
theorem dX9_reason_45 : decode cX9_reason 45 = .ok (.iload_n 3, 1) := by decide +kernel
theorem dX9_reason_46 : decode cX9_reason 46 = .ok (.iadd, 1) := by decide +kernel
theorem dX9_reason_47 : decode cX9_reason 47 = .ok (.iaload, 1) := by decide +kernel
theorem dX9_reason_48 : decode cX9_reason 48 = .ok (.iload_n 2, 1) := by decide +kernel
theorem dX9_reason_49 : decode cX9_reason 49 = .ok (.invokevirtual 69, 3) := by decide +kernel
theorem dX9_reason_52 : decode cX9_reason 52 = .ok (.istore 4, 2) := by decide +kernel
theorem dX9_reason_54 : decode cX9_reason 54 = .ok (.iload 4, 2) := by decide +kernel
theorem dX9_reason_56 : decode cX9_reason 56 = .ok (.iconst (-1), 1) := by decide +kernel
theorem dX9_reason_57 : decode cX9_reason 57 = .ok (.if_icmp .ne 9, 3) := by decide +kernel
theorem dX9_reason_60 : decode cX9_reason 60 = .ok (.sipush (-1004), 3) := by decide +kernel
theorem dX9_reason_63 : decode cX9_reason 63 = .ok (.goto 5, 3) := by decide +kernel
theorem dX9_reason_66 : decode cX9_reason 66 = .ok (.iload 4, 2) := by decide +kernel
theorem dX9_reason_68 : decode cX9_reason 68 = .ok (.ireturn, 1) := by decide +kernel
theorem dX9_ways_0 : decode cX9_ways 0 = .ok (.aload_n 0, 1) := by decide +kernel
theorem dX9_ways_1 : decode cX9_ways 1 = .ok (.iload_n 1, 1) := by decide +kernel
theorem dX9_ways_2 : decode cX9_ways 2 = .ok (.invokevirtual 86, 3) := by decide +kernel
theorem dX9_ways_5 : decode cX9_ways 5 = .ok (.ifCond .eq 11, 3) := by decide +kernel
theorem dX9_ways_8 : decode cX9_ways 8 = .ok (.aload_n 0, 1) := by decide +kernel
theorem dX9_ways_9 : decode cX9_ways 9 = .ok (.iload_n 2, 1) := by decide +kernel
theorem dX9_ways_10 : decode cX9_ways 10 = .ok (.invokevirtual 108, 3) := by decide +kernel
theorem dX9_ways_13 : decode cX9_ways 13 = .ok (.ifCond .ne 7, 3) := by decide +kernel
theorem dX9_ways_16 : decode cX9_ways 16 = .ok (.sipush (-1001), 3) := by decide +kernel
theorem dX9_ways_19 : decode cX9_ways 19 = .ok (.ireturn, 1) := by decide +kernel
theorem dX9_ways_20 : decode cX9_ways 20 = .ok (.aload_n 0, 1) := by decide +kernel
theorem dX9_ways_21 : decode cX9_ways 21 = .ok (.iload_n 2, 1) := by decide +kernel
theorem dX9_ways_22 : decode cX9_ways 22 = .ok (.invokevirtual 66, 3) := by decide +kernel
theorem dX9_ways_25 : decode cX9_ways 25 = .ok (.istore_n 3, 1) := by decide +kernel
theorem dX9_ways_26 : decode cX9_ways 26 = .ok (.iload_n 3, 1) := by decide +kernel
theorem dX9_ways_27 : decode cX9_ways 27 = .ok (.iconst (-1), 1) := by decide +kernel
theorem dX9_ways_28 : decode cX9_ways 28 = .ok (.if_icmp .eq 12, 3) := by decide +kernel
theorem dX9_ways_31 : decode cX9_ways 31 = .ok (.iload_n 3, 1) := by decide +kernel
theorem dX9_ways_32 : decode cX9_ways 32 = .ok (.iload_n 1, 1) := by decide +kernel
theorem dX9_ways_33 : decode cX9_ways 33 = .ok (.if_icmp .eq 7, 3) := by decide +kernel
theorem dX9_ways_36 : decode cX9_ways 36 = .ok (.sipush (-1002), 3) := by decide +kernel
theorem dX9_ways_39 : decode cX9_ways 39 = .ok (.ireturn, 1) := by decide +kernel
theorem dX9_ways_40 : decode cX9_ways 40 = .ok (.iconst 0, 1) := by decide +kernel
theorem dX9_ways_41 : decode cX9_ways 41 = .ok (.istore 4, 2) := by decide +kernel
theorem dX9_ways_43 : decode cX9_ways 43 = .ok (.iconst 0, 1) := by decide +kernel
theorem dX9_ways_44 : decode cX9_ways 44 = .ok (.istore 5, 2) := by decide +kernel
theorem dX9_ways_46 : decode cX9_ways 46 = .ok (.iload 5, 2) := by decide +kernel
theorem dX9_ways_48 : decode cX9_ways 48 = .ok (.bipush 8, 2) := by decide +kernel
theorem dX9_ways_50 : decode cX9_ways 50 = .ok (.if_icmp .ge 30, 3) := by decide +kernel
theorem dX9_ways_53 : decode cX9_ways 53 = .ok (.iload 4, 2) := by decide +kernel
theorem dX9_ways_55 : decode cX9_ways 55 = .ok (.aload_n 0, 1) := by decide +kernel
theorem dX9_ways_56 : decode cX9_ways 56 = .ok (.iload_n 1, 1) := by decide +kernel
theorem dX9_ways_57 : decode cX9_ways 57 = .ok (.iload_n 2, 1) := by decide +kernel
theorem dX9_ways_58 : decode cX9_ways 58 = .ok (.iload 5, 2) := by decide +kernel
theorem dX9_ways_60 : decode cX9_ways 60 = .ok (.invokevirtual 114, 3) := by decide +kernel
theorem dX9_ways_63 : decode cX9_ways 63 = .ok (.ifCond .eq 7, 3) := by decide +kernel
theorem dX9_ways_66 : decode cX9_ways 66 = .ok (.iconst 1, 1) := by decide +kernel
theorem dX9_ways_67 : decode cX9_ways 67 = .ok (.goto 4, 3) := by decide +kernel
theorem dX9_ways_70 : decode cX9_ways 70 = .ok (.iconst 0, 1) := by decide +kernel
theorem dX9_ways_71 : decode cX9_ways 71 = .ok (.iadd, 1) := by decide +kernel
theorem dX9_ways_72 : decode cX9_ways 72 = .ok (.istore 4, 2) := by decide +kernel
theorem dX9_ways_74 : decode cX9_ways 74 = .ok (.iinc 5 1, 3) := by decide +kernel
theorem dX9_ways_77 : decode cX9_ways 77 = .ok (.goto (-31), 3) := by decide +kernel
theorem dX9_ways_80 : decode cX9_ways 80 = .ok (.iload 4, 2) := by decide +kernel
theorem dX9_ways_82 : decode cX9_ways 82 = .ok (.ireturn, 1) := by decide +kernel
theorem dX9_best_0 : decode cX9_best 0 = .ok (.iconst (-1), 1) := by decide +kernel
theorem dX9_best_1 : decode cX9_best 1 = .ok (.istore_n 2, 1) := by decide +kernel
theorem dX9_best_2 : decode cX9_best 2 = .ok (.iconst (-1), 1) := by decide +kernel
theorem dX9_best_3 : decode cX9_best 3 = .ok (.istore_n 3, 1) := by decide +kernel
theorem dX9_best_4 : decode cX9_best 4 = .ok (.iconst 0, 1) := by decide +kernel
theorem dX9_best_5 : decode cX9_best 5 = .ok (.istore 4, 2) := by decide +kernel
theorem dX9_best_7 : decode cX9_best 7 = .ok (.iload 4, 2) := by decide +kernel
theorem dX9_best_9 : decode cX9_best 9 = .ok (.aload_n 0, 1) := by decide +kernel
theorem dX9_best_10 : decode cX9_best 10 = .ok (.invokevirtual 42, 3) := by decide +kernel
theorem dX9_best_13 : decode cX9_best 13 = .ok (.if_icmp .ge 75, 3) := by decide +kernel
theorem dX9_best_16 : decode cX9_best 16 = .ok (.iconst 0, 1) := by decide +kernel
theorem dX9_best_17 : decode cX9_best 17 = .ok (.istore 5, 2) := by decide +kernel
theorem dX9_best_19 : decode cX9_best 19 = .ok (.iload 5, 2) := by decide +kernel
theorem dX9_best_21 : decode cX9_best 21 = .ok (.bipush 8, 2) := by decide +kernel
theorem dX9_best_23 : decode cX9_best 23 = .ok (.if_icmp .ge 59, 3) := by decide +kernel
theorem dX9_best_26 : decode cX9_best 26 = .ok (.aload_n 0, 1) := by decide +kernel
theorem dX9_best_27 : decode cX9_best 27 = .ok (.iload 4, 2) := by decide +kernel
theorem dX9_best_29 : decode cX9_best 29 = .ok (.invokevirtual 66, 3) := by decide +kernel
theorem dX9_best_32 : decode cX9_best 32 = .ok (.iconst (-1), 1) := by decide +kernel
theorem dX9_best_33 : decode cX9_best 33 = .ok (.if_icmp .ne 49, 3) := by decide +kernel
theorem dX9_best_36 : decode cX9_best 36 = .ok (.aload_n 0, 1) := by decide +kernel
theorem dX9_best_37 : decode cX9_best 37 = .ok (.iload_n 1, 1) := by decide +kernel
theorem dX9_best_38 : decode cX9_best 38 = .ok (.iload 4, 2) := by decide +kernel
theorem dX9_best_40 : decode cX9_best 40 = .ok (.invokevirtual 121, 3) := by decide +kernel
theorem dX9_best_43 : decode cX9_best 43 = .ok (.iload_n 3, 1) := by decide +kernel
theorem dX9_best_44 : decode cX9_best 44 = .ok (.if_icmp .le 32, 3) := by decide +kernel
theorem dX9_best_47 : decode cX9_best 47 = .ok (.aload_n 0, 1) := by decide +kernel
theorem dX9_best_48 : decode cX9_best 48 = .ok (.iload_n 1, 1) := by decide +kernel
theorem dX9_best_49 : decode cX9_best 49 = .ok (.iload 4, 2) := by decide +kernel
theorem dX9_best_51 : decode cX9_best 51 = .ok (.iload 5, 2) := by decide +kernel
theorem dX9_best_53 : decode cX9_best 53 = .ok (.invokevirtual 114, 3) := by decide +kernel
theorem dX9_best_56 : decode cX9_best 56 = .ok (.ifCond .eq 20, 3) := by decide +kernel
theorem dX9_best_59 : decode cX9_best 59 = .ok (.bipush 10, 2) := by decide +kernel
theorem dX9_best_61 : decode cX9_best 61 = .ok (.iload 4, 2) := by decide +kernel
theorem dX9_best_63 : decode cX9_best 63 = .ok (.imul, 1) := by decide +kernel
theorem dX9_best_64 : decode cX9_best 64 = .ok (.iload 5, 2) := by decide +kernel
theorem dX9_best_66 : decode cX9_best 66 = .ok (.iadd, 1) := by decide +kernel
theorem dX9_best_67 : decode cX9_best 67 = .ok (.istore_n 2, 1) := by decide +kernel
theorem dX9_best_68 : decode cX9_best 68 = .ok (.aload_n 0, 1) := by decide +kernel
theorem dX9_best_69 : decode cX9_best 69 = .ok (.iload_n 1, 1) := by decide +kernel
theorem dX9_best_70 : decode cX9_best 70 = .ok (.iload 4, 2) := by decide +kernel
theorem dX9_best_72 : decode cX9_best 72 = .ok (.invokevirtual 121, 3) := by decide +kernel
theorem dX9_best_75 : decode cX9_best 75 = .ok (.istore_n 3, 1) := by decide +kernel
theorem dX9_best_76 : decode cX9_best 76 = .ok (.iinc 5 1, 3) := by decide +kernel
theorem dX9_best_79 : decode cX9_best 79 = .ok (.goto (-60), 3) := by decide +kernel
theorem dX9_best_82 : decode cX9_best 82 = .ok (.iinc 4 1, 3) := by decide +kernel
theorem dX9_best_85 : decode cX9_best 85 = .ok (.goto (-78), 3) := by decide +kernel
theorem dX9_best_88 : decode cX9_best 88 = .ok (.iload_n 2, 1) := by decide +kernel
theorem dX9_best_89 : decode cX9_best 89 = .ok (.ireturn, 1) := by decide +kernel
theorem dX9_bestFor_0 : decode cX9_bestFor 0 = .ok (.aload_n 0, 1) := by decide +kernel
theorem dX9_bestFor_1 : decode cX9_bestFor 1 = .ok (.iload_n 1, 1) := by decide +kernel
theorem dX9_bestFor_2 : decode cX9_bestFor 2 = .ok (.invokevirtual 86, 3) := by decide +kernel
theorem dX9_bestFor_5 : decode cX9_bestFor 5 = .ok (.ifCond .ne 7, 3) := by decide +kernel
theorem dX9_bestFor_8 : decode cX9_bestFor 8 = .ok (.sipush (-1001), 3) := by decide +kernel
theorem dX9_bestFor_11 : decode cX9_bestFor 11 = .ok (.ireturn, 1) := by decide +kernel
theorem dX9_bestFor_12 : decode cX9_bestFor 12 = .ok (.aload_n 0, 1) := by decide +kernel
theorem dX9_bestFor_13 : decode cX9_bestFor 13 = .ok (.iload_n 1, 1) := by decide +kernel
theorem dX9_bestFor_14 : decode cX9_bestFor 14 = .ok (.invokevirtual 76, 3) := by decide +kernel
theorem dX9_bestFor_17 : decode cX9_bestFor 17 = .ok (.ifCond .eq 7, 3) := by decide +kernel
theorem dX9_bestFor_20 : decode cX9_bestFor 20 = .ok (.sipush (-1002), 3) := by decide +kernel
theorem dX9_bestFor_23 : decode cX9_bestFor 23 = .ok (.ireturn, 1) := by decide +kernel
theorem dX9_bestFor_24 : decode cX9_bestFor 24 = .ok (.aload_n 0, 1) := by decide +kernel
theorem dX9_bestFor_25 : decode cX9_bestFor 25 = .ok (.iload_n 1, 1) := by decide +kernel
theorem dX9_bestFor_26 : decode cX9_bestFor 26 = .ok (.invokevirtual 124, 3) := by decide +kernel
theorem dX9_bestFor_29 : decode cX9_bestFor 29 = .ok (.istore_n 2, 1) := by decide +kernel
theorem dX9_bestFor_30 : decode cX9_bestFor 30 = .ok (.iload_n 2, 1) := by decide +kernel
theorem dX9_bestFor_31 : decode cX9_bestFor 31 = .ok (.iconst (-1), 1) := by decide +kernel
theorem dX9_bestFor_32 : decode cX9_bestFor 32 = .ok (.if_icmp .ne 9, 3) := by decide +kernel
theorem dX9_bestFor_35 : decode cX9_bestFor 35 = .ok (.sipush (-1004), 3) := by decide +kernel
theorem dX9_bestFor_38 : decode cX9_bestFor 38 = .ok (.goto 4, 3) := by decide +kernel
theorem dX9_bestFor_41 : decode cX9_bestFor 41 = .ok (.iload_n 2, 1) := by decide +kernel
theorem dX9_bestFor_42 : decode cX9_bestFor 42 = .ok (.ireturn, 1) := by decide +kernel
theorem dX9_fill_0 : decode cX9_fill 0 = .ok (.aload_n 0, 1) := by decide +kernel
theorem dX9_fill_1 : decode cX9_fill 1 = .ok (.invokevirtual 73, 3) := by decide +kernel
theorem dX9_fill_4 : decode cX9_fill 4 = .ok (.iconst 0, 1) := by decide +kernel
theorem dX9_fill_5 : decode cX9_fill 5 = .ok (.istore_n 1, 1) := by decide +kernel
theorem dX9_fill_6 : decode cX9_fill 6 = .ok (.iconst 0, 1) := by decide +kernel
theorem dX9_fill_7 : decode cX9_fill 7 = .ok (.istore_n 2, 1) := by decide +kernel
theorem dX9_fill_8 : decode cX9_fill 8 = .ok (.iload_n 2, 1) := by decide +kernel
theorem dX9_fill_9 : decode cX9_fill 9 = .ok (.aload_n 0, 1) := by decide +kernel
theorem dX9_fill_10 : decode cX9_fill 10 = .ok (.getfield 7, 3) := by decide +kernel
theorem dX9_fill_13 : decode cX9_fill 13 = .ok (.iconst 2, 1) := by decide +kernel
theorem dX9_fill_14 : decode cX9_fill 14 = .ok (.iaload, 1) := by decide +kernel
theorem dX9_fill_15 : decode cX9_fill 15 = .ok (.if_icmp .ge 58, 3) := by decide +kernel
theorem dX9_fill_18 : decode cX9_fill 18 = .ok (.aload_n 0, 1) := by decide +kernel
theorem dX9_fill_19 : decode cX9_fill 19 = .ok (.iload_n 2, 1) := by decide +kernel
theorem dX9_fill_20 : decode cX9_fill 20 = .ok (.invokevirtual 76, 3) := by decide +kernel
theorem dX9_fill_23 : decode cX9_fill 23 = .ok (.ifCond .eq 7, 3) := by decide +kernel
theorem dX9_fill_26 : decode cX9_fill 26 = .ok (.iconst (-1), 1) := by decide +kernel
theorem dX9_fill_27 : decode cX9_fill 27 = .ok (.goto 8, 3) := by decide +kernel
theorem dX9_fill_30 : decode cX9_fill 30 = .ok (.aload_n 0, 1) := by decide +kernel
theorem dX9_fill_31 : decode cX9_fill 31 = .ok (.iload_n 2, 1) := by decide +kernel
theorem dX9_fill_32 : decode cX9_fill 32 = .ok (.invokevirtual 124, 3) := by decide +kernel
theorem dX9_fill_35 : decode cX9_fill 35 = .ok (.istore_n 3, 1) := by decide +kernel
theorem dX9_fill_36 : decode cX9_fill 36 = .ok (.iload_n 3, 1) := by decide +kernel
theorem dX9_fill_37 : decode cX9_fill 37 = .ok (.iconst (-1), 1) := by decide +kernel
theorem dX9_fill_38 : decode cX9_fill 38 = .ok (.if_icmp .eq 19, 3) := by decide +kernel
theorem dX9_fill_41 : decode cX9_fill 41 = .ok (.aload_n 0, 1) := by decide +kernel
theorem dX9_fill_42 : decode cX9_fill 42 = .ok (.iload_n 2, 1) := by decide +kernel
theorem dX9_fill_43 : decode cX9_fill 43 = .ok (.iload_n 3, 1) := by decide +kernel
theorem dX9_fill_44 : decode cX9_fill 44 = .ok (.bipush 10, 2) := by decide +kernel
theorem dX9_fill_46 : decode cX9_fill 46 = .ok (.idiv, 1) := by decide +kernel
theorem dX9_fill_47 : decode cX9_fill 47 = .ok (.iload_n 3, 1) := by decide +kernel
theorem dX9_fill_48 : decode cX9_fill 48 = .ok (.bipush 10, 2) := by decide +kernel
theorem dX9_fill_50 : decode cX9_fill 50 = .ok (.irem, 1) := by decide +kernel
theorem dX9_fill_51 : decode cX9_fill 51 = .ok (.invokevirtual 117, 3) := by decide +kernel
theorem dX9_fill_54 : decode cX9_fill 54 = .ok (.iinc 1 1, 3) := by decide +kernel
theorem dX9_fill_57 : decode cX9_fill 57 = .ok (.iload_n 3, 1) := by decide +kernel
theorem dX9_fill_58 : decode cX9_fill 58 = .ok (.iconst (-1), 1) := by decide +kernel
theorem dX9_fill_59 : decode cX9_fill 59 = .ok (.if_icmp .ne 9, 3) := by decide +kernel
theorem dX9_fill_62 : decode cX9_fill 62 = .ok (.iload_n 2, 1) := by decide +kernel
theorem dX9_fill_63 : decode cX9_fill 63 = .ok (.iconst 1, 1) := by decide +kernel
theorem dX9_fill_64 : decode cX9_fill 64 = .ok (.iadd, 1) := by decide +kernel
theorem dX9_fill_65 : decode cX9_fill 65 = .ok (.goto 4, 3) := by decide +kernel
theorem dX9_fill_68 : decode cX9_fill 68 = .ok (.iconst 0, 1) := by decide +kernel
theorem dX9_fill_69 : decode cX9_fill 69 = .ok (.istore_n 2, 1) := by decide +kernel
theorem dX9_fill_70 : decode cX9_fill 70 = .ok (.goto (-62), 3) := by decide +kernel
theorem dX9_fill_73 : decode cX9_fill 73 = .ok (.iload_n 1, 1) := by decide +kernel
theorem dX9_fill_74 : decode cX9_fill 74 = .ok (.ireturn, 1) := by decide +kernel
theorem dX9_member_0 : decode cX9_member 0 = .ok (.aload_n 0, 1) := by decide +kernel
theorem dX9_member_1 : decode cX9_member 1 = .ok (.invokevirtual 89, 3) := by decide +kernel
theorem dX9_member_4 : decode cX9_member 4 = .ok (.iload_n 1, 1) := by decide +kernel
theorem dX9_member_5 : decode cX9_member 5 = .ok (.iconst 0, 1) := by decide +kernel
theorem dX9_member_6 : decode cX9_member 6 = .ok (.aload_n 0, 1) := by decide +kernel
theorem dX9_member_7 : decode cX9_member 7 = .ok (.getfield 99, 3) := by decide +kernel
theorem dX9_member_10 : decode cX9_member 10 = .ok (.iconst 1, 1) := by decide +kernel
theorem dX9_member_11 : decode cX9_member 11 = .ok (.isub, 1) := by decide +kernel
theorem dX9_member_12 : decode cX9_member 12 = .ok (.invokestatic 38, 3) := by decide +kernel
theorem dX9_member_15 : decode cX9_member 15 = .ok (.ifCond .eq 7, 3) := by decide +kernel
theorem dX9_member_18 : decode cX9_member 18 = .ok (.iload_n 2, 1) := by decide +kernel
theorem dX9_member_19 : decode cX9_member 19 = .ok (.ifCond .ge 7, 3) := by decide +kernel
theorem dX9_member_22 : decode cX9_member 22 = .ok (.sipush (-1001), 3) := by decide +kernel
theorem dX9_member_25 : decode cX9_member 25 = .ok (.ireturn, 1) := by decide +kernel
theorem dX9_member_26 : decode cX9_member 26 = .ok (.iload_n 2, 1) := by decide +kernel
theorem dX9_member_27 : decode cX9_member 27 = .ok (.istore_n 3, 1) := by decide +kernel
theorem dX9_member_28 : decode cX9_member 28 = .ok (.iconst 0, 1) := by decide +kernel
theorem dX9_member_29 : decode cX9_member 29 = .ok (.istore 4, 2) := by decide +kernel
theorem dX9_member_31 : decode cX9_member 31 = .ok (.iload 4, 2) := by decide +kernel
theorem dX9_member_33 : decode cX9_member 33 = .ok (.aload_n 0, 1) := by decide +kernel
theorem dX9_member_34 : decode cX9_member 34 = .ok (.getfield 7, 3) := by decide +kernel
theorem dX9_member_37 : decode cX9_member 37 = .ok (.iconst 2, 1) := by decide +kernel
theorem dX9_member_38 : decode cX9_member 38 = .ok (.iaload, 1) := by decide +kernel
theorem dX9_member_39 : decode cX9_member 39 = .ok (.if_icmp .ge 30, 3) := by decide +kernel
theorem dX9_member_42 : decode cX9_member 42 = .ok (.aload_n 0, 1) := by decide +kernel
theorem dX9_member_43 : decode cX9_member 43 = .ok (.getfield 29, 3) := by decide +kernel
theorem dX9_member_46 : decode cX9_member 46 = .ok (.iload 4, 2) := by decide +kernel
theorem dX9_member_48 : decode cX9_member 48 = .ok (.iaload, 1) := by decide +kernel
theorem dX9_member_49 : decode cX9_member 49 = .ok (.iload_n 1, 1) := by decide +kernel
theorem dX9_member_50 : decode cX9_member 50 = .ok (.if_icmp .ne 13, 3) := by decide +kernel
theorem dX9_member_53 : decode cX9_member 53 = .ok (.iload_n 3, 1) := by decide +kernel
theorem dX9_member_54 : decode cX9_member 54 = .ok (.ifCond .ne 6, 3) := by decide +kernel
theorem dX9_member_57 : decode cX9_member 57 = .ok (.iload 4, 2) := by decide +kernel
theorem dX9_member_59 : decode cX9_member 59 = .ok (.ireturn, 1) := by decide +kernel
theorem dX9_member_60 : decode cX9_member 60 = .ok (.iinc 3 (-1), 3) := by decide +kernel
theorem dX9_member_63 : decode cX9_member 63 = .ok (.iinc 4 1, 3) := by decide +kernel
theorem dX9_member_66 : decode cX9_member 66 = .ok (.goto (-35), 3) := by decide +kernel
theorem dX9_member_69 : decode cX9_member 69 = .ok (.sipush (-1004), 3) := by decide +kernel
theorem dX9_member_72 : decode cX9_member 72 = .ok (.ireturn, 1) := by decide +kernel
theorem dX9_fillsAll_0 : decode cX9_fillsAll 0 = .ok (.iconst 0, 1) := by decide +kernel
theorem dX9_fillsAll_1 : decode cX9_fillsAll 1 = .ok (.istore_n 1, 1) := by decide +kernel
theorem dX9_fillsAll_2 : decode cX9_fillsAll 2 = .ok (.aload_n 0, 1) := by decide +kernel
theorem dX9_fillsAll_3 : decode cX9_fillsAll 3 = .ok (.getfield 32, 3) := by decide +kernel
theorem dX9_fillsAll_6 : decode cX9_fillsAll 6 = .ok (.iconst 0, 1) := by decide +kernel
theorem dX9_fillsAll_7 : decode cX9_fillsAll 7 = .ok (.iconst (-1), 1) := by decide +kernel
theorem dX9_fillsAll_8 : decode cX9_fillsAll 8 = .ok (.iastore, 1) := by decide +kernel
theorem dX9_fillsAll_9 : decode cX9_fillsAll 9 = .ok (.iload_n 1, 1) := by decide +kernel
theorem dX9_fillsAll_10 : decode cX9_fillsAll 10 = .ok (.iconst 0, 1) := by decide +kernel
theorem dX9_fillsAll_11 : decode cX9_fillsAll 11 = .ok (.aload_n 0, 1) := by decide +kernel
theorem dX9_fillsAll_12 : decode cX9_fillsAll 12 = .ok (.invokevirtual 42, 3) := by decide +kernel
theorem dX9_fillsAll_15 : decode cX9_fillsAll 15 = .ok (.iconst 1, 1) := by decide +kernel
theorem dX9_fillsAll_16 : decode cX9_fillsAll 16 = .ok (.isub, 1) := by decide +kernel
theorem dX9_fillsAll_17 : decode cX9_fillsAll 17 = .ok (.invokestatic 38, 3) := by decide +kernel
theorem dX9_fillsAll_20 : decode cX9_fillsAll 20 = .ok (.ifCond .eq 119, 3) := by decide +kernel
theorem dX9_fillsAll_23 : decode cX9_fillsAll 23 = .ok (.aload_n 0, 1) := by decide +kernel
theorem dX9_fillsAll_24 : decode cX9_fillsAll 24 = .ok (.iload_n 1, 1) := by decide +kernel
theorem dX9_fillsAll_25 : decode cX9_fillsAll 25 = .ok (.invokevirtual 66, 3) := by decide +kernel
theorem dX9_fillsAll_28 : decode cX9_fillsAll 28 = .ok (.istore_n 2, 1) := by decide +kernel
theorem dX9_fillsAll_29 : decode cX9_fillsAll 29 = .ok (.iload_n 2, 1) := by decide +kernel
theorem dX9_fillsAll_30 : decode cX9_fillsAll 30 = .ok (.iconst (-1), 1) := by decide +kernel
theorem dX9_fillsAll_31 : decode cX9_fillsAll 31 = .ok (.if_icmp .eq 10, 3) := by decide +kernel
theorem dX9_fillsAll_34 : decode cX9_fillsAll 34 = .ok (.aload_n 0, 1) := by decide +kernel
theorem dX9_fillsAll_35 : decode cX9_fillsAll 35 = .ok (.iload_n 2, 1) := by decide +kernel
theorem dX9_fillsAll_36 : decode cX9_fillsAll 36 = .ok (.iconst (-1), 1) := by decide +kernel
theorem dX9_fillsAll_37 : decode cX9_fillsAll 37 = .ok (.iconst 0, 1) := by decide +kernel
theorem dX9_fillsAll_38 : decode cX9_fillsAll 38 = .ok (.invokevirtual 117, 3) := by decide +kernel
theorem dX9_fillsAll_41 : decode cX9_fillsAll 41 = .ok (.aload_n 0, 1) := by decide +kernel
theorem dX9_fillsAll_42 : decode cX9_fillsAll 42 = .ok (.getfield 32, 3) := by decide +kernel
theorem dX9_fillsAll_45 : decode cX9_fillsAll 45 = .ok (.iload_n 1, 1) := by decide +kernel
theorem dX9_fillsAll_46 : decode cX9_fillsAll 46 = .ok (.dup2, 1) := by decide +kernel
theorem dX9_fillsAll_47 : decode cX9_fillsAll 47 = .ok (.iaload, 1) := by decide +kernel
theorem dX9_fillsAll_48 : decode cX9_fillsAll 48 = .ok (.iconst 1, 1) := by decide +kernel
theorem dX9_fillsAll_49 : decode cX9_fillsAll 49 = .ok (.iadd, 1) := by decide +kernel
theorem dX9_fillsAll_50 : decode cX9_fillsAll 50 = .ok (.iastore, 1) := by decide +kernel
theorem dX9_fillsAll_51 : decode cX9_fillsAll 51 = .ok (.aload_n 0, 1) := by decide +kernel
theorem dX9_fillsAll_52 : decode cX9_fillsAll 52 = .ok (.getfield 32, 3) := by decide +kernel
theorem dX9_fillsAll_55 : decode cX9_fillsAll 55 = .ok (.iload_n 1, 1) := by decide +kernel
theorem dX9_fillsAll_56 : decode cX9_fillsAll 56 = .ok (.iaload, 1) := by decide +kernel
theorem dX9_fillsAll_57 : decode cX9_fillsAll 57 = .ok (.bipush 8, 2) := by decide +kernel
theorem dX9_fillsAll_59 : decode cX9_fillsAll 59 = .ok (.idiv, 1) := by decide +kernel
theorem dX9_fillsAll_60 : decode cX9_fillsAll 60 = .ok (.istore_n 3, 1) := by decide +kernel
theorem dX9_fillsAll_61 : decode cX9_fillsAll 61 = .ok (.iload_n 3, 1) := by decide +kernel
theorem dX9_fillsAll_62 : decode cX9_fillsAll 62 = .ok (.aload_n 0, 1) := by decide +kernel
theorem dX9_fillsAll_63 : decode cX9_fillsAll 63 = .ok (.getfield 7, 3) := by decide +kernel
theorem dX9_fillsAll_66 : decode cX9_fillsAll 66 = .ok (.iconst 2, 1) := by decide +kernel
theorem dX9_fillsAll_67 : decode cX9_fillsAll 67 = .ok (.iaload, 1) := by decide +kernel
theorem dX9_fillsAll_68 : decode cX9_fillsAll 68 = .ok (.if_icmp .ne 9, 3) := by decide +kernel
theorem dX9_fillsAll_71 : decode cX9_fillsAll 71 = .ok (.iinc 1 (-1), 3) := by decide +kernel
theorem dX9_fillsAll_74 : decode cX9_fillsAll 74 = .ok (.goto 62, 3) := by decide +kernel
theorem dX9_fillsAll_77 : decode cX9_fillsAll 77 = .ok (.aload_n 0, 1) := by decide +kernel
theorem dX9_fillsAll_78 : decode cX9_fillsAll 78 = .ok (.iload_n 3, 1) := by decide +kernel
theorem dX9_fillsAll_79 : decode cX9_fillsAll 79 = .ok (.invokevirtual 76, 3) := by decide +kernel
theorem dX9_fillsAll_82 : decode cX9_fillsAll 82 = .ok (.ifCond .ne 54, 3) := by decide +kernel
theorem dX9_fillsAll_85 : decode cX9_fillsAll 85 = .ok (.aload_n 0, 1) := by decide +kernel
theorem dX9_fillsAll_86 : decode cX9_fillsAll 86 = .ok (.iload_n 3, 1) := by decide +kernel
theorem dX9_fillsAll_87 : decode cX9_fillsAll 87 = .ok (.iload_n 1, 1) := by decide +kernel
theorem dX9_fillsAll_88 : decode cX9_fillsAll 88 = .ok (.aload_n 0, 1) := by decide +kernel
theorem dX9_fillsAll_89 : decode cX9_fillsAll 89 = .ok (.getfield 32, 3) := by decide +kernel
theorem dX9_fillsAll_92 : decode cX9_fillsAll 92 = .ok (.iload_n 1, 1) := by decide +kernel
theorem dX9_fillsAll_93 : decode cX9_fillsAll 93 = .ok (.iaload, 1) := by decide +kernel
theorem dX9_fillsAll_94 : decode cX9_fillsAll 94 = .ok (.bipush 8, 2) := by decide +kernel
theorem dX9_fillsAll_96 : decode cX9_fillsAll 96 = .ok (.irem, 1) := by decide +kernel
theorem dX9_fillsAll_97 : decode cX9_fillsAll 97 = .ok (.invokevirtual 114, 3) := by decide +kernel
theorem dX9_fillsAll_100 : decode cX9_fillsAll 100 = .ok (.ifCond .eq 36, 3) := by decide +kernel
theorem dX9_fillsAll_103 : decode cX9_fillsAll 103 = .ok (.aload_n 0, 1) := by decide +kernel
theorem dX9_fillsAll_104 : decode cX9_fillsAll 104 = .ok (.iload_n 3, 1) := by decide +kernel
theorem dX9_fillsAll_105 : decode cX9_fillsAll 105 = .ok (.iload_n 1, 1) := by decide +kernel
theorem dX9_fillsAll_106 : decode cX9_fillsAll 106 = .ok (.aload_n 0, 1) := by decide +kernel
theorem dX9_fillsAll_107 : decode cX9_fillsAll 107 = .ok (.getfield 32, 3) := by decide +kernel
theorem dX9_fillsAll_110 : decode cX9_fillsAll 110 = .ok (.iload_n 1, 1) := by decide +kernel
theorem dX9_fillsAll_111 : decode cX9_fillsAll 111 = .ok (.iaload, 1) := by decide +kernel
theorem dX9_fillsAll_112 : decode cX9_fillsAll 112 = .ok (.bipush 8, 2) := by decide +kernel
theorem dX9_fillsAll_114 : decode cX9_fillsAll 114 = .ok (.irem, 1) := by decide +kernel
theorem dX9_fillsAll_115 : decode cX9_fillsAll 115 = .ok (.invokevirtual 117, 3) := by decide +kernel
theorem dX9_fillsAll_118 : decode cX9_fillsAll 118 = .ok (.iinc 1 1, 3) := by decide +kernel
theorem dX9_fillsAll_121 : decode cX9_fillsAll 121 = .ok (.iload_n 1, 1) := by decide +kernel
theorem dX9_fillsAll_122 : decode cX9_fillsAll 122 = .ok (.aload_n 0, 1) := by decide +kernel
theorem dX9_fillsAll_123 : decode cX9_fillsAll 123 = .ok (.invokevirtual 42, 3) := by decide +kernel
theorem dX9_fillsAll_126 : decode cX9_fillsAll 126 = .ok (.if_icmp .ge 10, 3) := by decide +kernel
theorem dX9_fillsAll_129 : decode cX9_fillsAll 129 = .ok (.aload_n 0, 1) := by decide +kernel
theorem dX9_fillsAll_130 : decode cX9_fillsAll 130 = .ok (.getfield 32, 3) := by decide +kernel
theorem dX9_fillsAll_133 : decode cX9_fillsAll 133 = .ok (.iload_n 1, 1) := by decide +kernel
theorem dX9_fillsAll_134 : decode cX9_fillsAll 134 = .ok (.iconst (-1), 1) := by decide +kernel
theorem dX9_fillsAll_135 : decode cX9_fillsAll 135 = .ok (.iastore, 1) := by decide +kernel
theorem dX9_fillsAll_136 : decode cX9_fillsAll 136 = .ok (.goto (-127), 3) := by decide +kernel
theorem dX9_fillsAll_139 : decode cX9_fillsAll 139 = .ok (.iload_n 1, 1) := by decide +kernel
theorem dX9_fillsAll_140 : decode cX9_fillsAll 140 = .ok (.aload_n 0, 1) := by decide +kernel
theorem dX9_fillsAll_141 : decode cX9_fillsAll 141 = .ok (.invokevirtual 42, 3) := by decide +kernel
theorem dX9_fillsAll_144 : decode cX9_fillsAll 144 = .ok (.if_icmp .ne 7, 3) := by decide +kernel
theorem dX9_fillsAll_147 : decode cX9_fillsAll 147 = .ok (.iconst 1, 1) := by decide +kernel
theorem dX9_fillsAll_148 : decode cX9_fillsAll 148 = .ok (.goto 4, 3) := by decide +kernel
theorem dX9_fillsAll_151 : decode cX9_fillsAll 151 = .ok (.iconst 0, 1) := by decide +kernel
theorem dX9_fillsAll_152 : decode cX9_fillsAll 152 = .ok (.ireturn, 1) := by decide +kernel
theorem dX9_canFill_0 : decode cX9_canFill 0 = .ok (.aload_n 0, 1) := by decide +kernel
theorem dX9_canFill_1 : decode cX9_canFill 1 = .ok (.getfield 7, 3) := by decide +kernel
theorem dX9_canFill_4 : decode cX9_canFill 4 = .ok (.iconst 2, 1) := by decide +kernel
theorem dX9_canFill_5 : decode cX9_canFill 5 = .ok (.iaload, 1) := by decide +kernel
theorem dX9_canFill_6 : decode cX9_canFill 6 = .ok (.aload_n 0, 1) := by decide +kernel
theorem dX9_canFill_7 : decode cX9_canFill 7 = .ok (.invokevirtual 42, 3) := by decide +kernel
theorem dX9_canFill_10 : decode cX9_canFill 10 = .ok (.if_icmp .ne 12, 3) := by decide +kernel
theorem dX9_canFill_13 : decode cX9_canFill 13 = .ok (.aload_n 0, 1) := by decide +kernel
theorem dX9_canFill_14 : decode cX9_canFill 14 = .ok (.invokevirtual 42, 3) := by decide +kernel
theorem dX9_canFill_17 : decode cX9_canFill 17 = .ok (.bipush 6, 2) := by decide +kernel
theorem dX9_canFill_19 : decode cX9_canFill 19 = .ok (.if_icmp .le 7, 3) := by decide +kernel
theorem dX9_canFill_22 : decode cX9_canFill 22 = .ok (.sipush (-1002), 3) := by decide +kernel
theorem dX9_canFill_25 : decode cX9_canFill 25 = .ok (.ireturn, 1) := by decide +kernel
theorem dX9_canFill_26 : decode cX9_canFill 26 = .ok (.iconst 0, 1) := by decide +kernel
theorem dX9_canFill_27 : decode cX9_canFill 27 = .ok (.istore_n 1, 1) := by decide +kernel
theorem dX9_canFill_28 : decode cX9_canFill 28 = .ok (.iload_n 1, 1) := by decide +kernel
theorem dX9_canFill_29 : decode cX9_canFill 29 = .ok (.sipush 135, 3) := by decide +kernel
theorem dX9_canFill_32 : decode cX9_canFill 32 = .ok (.if_icmp .ge 21, 3) := by decide +kernel
theorem dX9_canFill_35 : decode cX9_canFill 35 = .ok (.aload_n 0, 1) := by decide +kernel
theorem dX9_canFill_36 : decode cX9_canFill 36 = .ok (.getfield 35, 3) := by decide +kernel
theorem dX9_canFill_39 : decode cX9_canFill 39 = .ok (.iload_n 1, 1) := by decide +kernel
theorem dX9_canFill_40 : decode cX9_canFill 40 = .ok (.aload_n 0, 1) := by decide +kernel
theorem dX9_canFill_41 : decode cX9_canFill 41 = .ok (.getfield 7, 3) := by decide +kernel
theorem dX9_canFill_44 : decode cX9_canFill 44 = .ok (.iload_n 1, 1) := by decide +kernel
theorem dX9_canFill_45 : decode cX9_canFill 45 = .ok (.iaload, 1) := by decide +kernel
theorem dX9_canFill_46 : decode cX9_canFill 46 = .ok (.iastore, 1) := by decide +kernel
theorem dX9_canFill_47 : decode cX9_canFill 47 = .ok (.iinc 1 1, 3) := by decide +kernel
theorem dX9_canFill_50 : decode cX9_canFill 50 = .ok (.goto (-22), 3) := by decide +kernel
theorem dX9_canFill_53 : decode cX9_canFill 53 = .ok (.iconst 0, 1) := by decide +kernel
theorem dX9_canFill_54 : decode cX9_canFill 54 = .ok (.istore_n 1, 1) := by decide +kernel
theorem dX9_canFill_55 : decode cX9_canFill 55 = .ok (.iload_n 1, 1) := by decide +kernel
theorem dX9_canFill_56 : decode cX9_canFill 56 = .ok (.aload_n 0, 1) := by decide +kernel
theorem dX9_canFill_57 : decode cX9_canFill 57 = .ok (.getfield 7, 3) := by decide +kernel
theorem dX9_canFill_60 : decode cX9_canFill 60 = .ok (.iconst 2, 1) := by decide +kernel
theorem dX9_canFill_61 : decode cX9_canFill 61 = .ok (.iaload, 1) := by decide +kernel
theorem dX9_canFill_62 : decode cX9_canFill 62 = .ok (.if_icmp .ge 16, 3) := by decide +kernel
theorem dX9_canFill_65 : decode cX9_canFill 65 = .ok (.aload_n 0, 1) := by decide +kernel
theorem dX9_canFill_66 : decode cX9_canFill 66 = .ok (.iload_n 1, 1) := by decide +kernel
theorem dX9_canFill_67 : decode cX9_canFill 67 = .ok (.iconst (-1), 1) := by decide +kernel
theorem dX9_canFill_68 : decode cX9_canFill 68 = .ok (.iconst 0, 1) := by decide +kernel
theorem dX9_canFill_69 : decode cX9_canFill 69 = .ok (.invokevirtual 117, 3) := by decide +kernel
theorem dX9_canFill_72 : decode cX9_canFill 72 = .ok (.iinc 1 1, 3) := by decide +kernel
theorem dX9_canFill_75 : decode cX9_canFill 75 = .ok (.goto (-20), 3) := by decide +kernel
theorem dX9_canFill_78 : decode cX9_canFill 78 = .ok (.aload_n 0, 1) := by decide +kernel
theorem dX9_canFill_79 : decode cX9_canFill 79 = .ok (.invokevirtual 127, 3) := by decide +kernel
theorem dX9_canFill_82 : decode cX9_canFill 82 = .ok (.istore_n 1, 1) := by decide +kernel
theorem dX9_canFill_83 : decode cX9_canFill 83 = .ok (.iconst 0, 1) := by decide +kernel
theorem dX9_canFill_84 : decode cX9_canFill 84 = .ok (.istore_n 2, 1) := by decide +kernel
theorem dX9_canFill_85 : decode cX9_canFill 85 = .ok (.iload_n 2, 1) := by decide +kernel
theorem dX9_canFill_86 : decode cX9_canFill 86 = .ok (.sipush 135, 3) := by decide +kernel
theorem dX9_canFill_89 : decode cX9_canFill 89 = .ok (.if_icmp .ge 21, 3) := by decide +kernel
theorem dX9_canFill_92 : decode cX9_canFill 92 = .ok (.aload_n 0, 1) := by decide +kernel
theorem dX9_canFill_93 : decode cX9_canFill 93 = .ok (.getfield 7, 3) := by decide +kernel
theorem dX9_canFill_96 : decode cX9_canFill 96 = .ok (.iload_n 2, 1) := by decide +kernel
theorem dX9_canFill_97 : decode cX9_canFill 97 = .ok (.aload_n 0, 1) := by decide +kernel
theorem dX9_canFill_98 : decode cX9_canFill 98 = .ok (.getfield 35, 3) := by decide +kernel
theorem dX9_canFill_101 : decode cX9_canFill 101 = .ok (.iload_n 2, 1) := by decide +kernel
theorem dX9_canFill_102 : decode cX9_canFill 102 = .ok (.iaload, 1) := by decide +kernel
theorem dX9_canFill_103 : decode cX9_canFill 103 = .ok (.iastore, 1) := by decide +kernel
theorem dX9_canFill_104 : decode cX9_canFill 104 = .ok (.iinc 2 1, 3) := by decide +kernel
theorem dX9_canFill_107 : decode cX9_canFill 107 = .ok (.goto (-22), 3) := by decide +kernel
theorem dX9_canFill_110 : decode cX9_canFill 110 = .ok (.iload_n 1, 1) := by decide +kernel
theorem dX9_canFill_111 : decode cX9_canFill 111 = .ok (.ifCond .eq 7, 3) := by decide +kernel
theorem dX9_canFill_114 : decode cX9_canFill 114 = .ok (.iconst 1, 1) := by decide +kernel
theorem dX9_canFill_115 : decode cX9_canFill 115 = .ok (.goto 4, 3) := by decide +kernel
theorem dX9_canFill_118 : decode cX9_canFill 118 = .ok (.iconst 0, 1) := by decide +kernel
theorem dX9_canFill_119 : decode cX9_canFill 119 = .ok (.ireturn, 1) := by decide +kernel
theorem dX9_type_0 : decode cX9_type 0 = .ok (.iload_n 1, 1) := by decide +kernel
theorem dX9_type_1 : decode cX9_type 1 = .ok (.bipush 32, 2) := by decide +kernel
theorem dX9_type_3 : decode cX9_type 3 = .ok (.bipush 126, 2) := by decide +kernel
theorem dX9_type_5 : decode cX9_type 5 = .ok (.invokestatic 38, 3) := by decide +kernel
theorem dX9_type_8 : decode cX9_type 8 = .ok (.ifCond .ne 7, 3) := by decide +kernel
theorem dX9_type_11 : decode cX9_type 11 = .ok (.sipush (-1001), 3) := by decide +kernel
theorem dX9_type_14 : decode cX9_type 14 = .ok (.ireturn, 1) := by decide +kernel
theorem dX9_type_15 : decode cX9_type 15 = .ok (.aload_n 0, 1) := by decide +kernel
theorem dX9_type_16 : decode cX9_type 16 = .ok (.getfield 105, 3) := by decide +kernel
theorem dX9_type_19 : decode cX9_type 19 = .ok (.bipush 60, 2) := by decide +kernel
theorem dX9_type_21 : decode cX9_type 21 = .ok (.if_icmp .ne 7, 3) := by decide +kernel
theorem dX9_type_24 : decode cX9_type 24 = .ok (.sipush (-1003), 3) := by decide +kernel
theorem dX9_type_27 : decode cX9_type 27 = .ok (.ireturn, 1) := by decide +kernel
theorem dX9_type_28 : decode cX9_type 28 = .ok (.aload_n 0, 1) := by decide +kernel
theorem dX9_type_29 : decode cX9_type 29 = .ok (.getfield 16, 3) := by decide +kernel
theorem dX9_type_32 : decode cX9_type 32 = .ok (.aload_n 0, 1) := by decide +kernel
theorem dX9_type_33 : decode cX9_type 33 = .ok (.getfield 105, 3) := by decide +kernel
theorem dX9_type_36 : decode cX9_type 36 = .ok (.iload_n 1, 1) := by decide +kernel
theorem dX9_type_37 : decode cX9_type 37 = .ok (.i2c, 1) := by decide +kernel
theorem dX9_type_38 : decode cX9_type 38 = .ok (.castore, 1) := by decide +kernel
theorem dX9_type_39 : decode cX9_type 39 = .ok (.aload_n 0, 1) := by decide +kernel
theorem dX9_type_40 : decode cX9_type 40 = .ok (.dup, 1) := by decide +kernel
theorem dX9_type_41 : decode cX9_type 41 = .ok (.getfield 105, 3) := by decide +kernel
theorem dX9_type_44 : decode cX9_type 44 = .ok (.iconst 1, 1) := by decide +kernel
theorem dX9_type_45 : decode cX9_type 45 = .ok (.iadd, 1) := by decide +kernel
theorem dX9_type_46 : decode cX9_type 46 = .ok (.putfield 105, 3) := by decide +kernel
theorem dX9_type_49 : decode cX9_type 49 = .ok (.aload_n 0, 1) := by decide +kernel
theorem dX9_type_50 : decode cX9_type 50 = .ok (.getfield 105, 3) := by decide +kernel
theorem dX9_type_53 : decode cX9_type 53 = .ok (.ireturn, 1) := by decide +kernel
theorem dX9_clearText_0 : decode cX9_clearText 0 = .ok (.aload_n 0, 1) := by decide +kernel
theorem dX9_clearText_1 : decode cX9_clearText 1 = .ok (.getfield 105, 3) := by decide +kernel
theorem dX9_clearText_4 : decode cX9_clearText 4 = .ok (.istore_n 1, 1) := by decide +kernel
theorem dX9_clearText_5 : decode cX9_clearText 5 = .ok (.aload_n 0, 1) := by decide +kernel
theorem dX9_clearText_6 : decode cX9_clearText 6 = .ok (.iconst 0, 1) := by decide +kernel
theorem dX9_clearText_7 : decode cX9_clearText 7 = .ok (.putfield 105, 3) := by decide +kernel
theorem dX9_clearText_10 : decode cX9_clearText 10 = .ok (.iload_n 1, 1) := by decide +kernel
theorem dX9_clearText_11 : decode cX9_clearText 11 = .ok (.ireturn, 1) := by decide +kernel
theorem dX9_signAt_0 : decode cX9_signAt 0 = .ok (.iload_n 1, 1) := by decide +kernel
theorem dX9_signAt_1 : decode cX9_signAt 1 = .ok (.aload_n 0, 1) := by decide +kernel
theorem dX9_signAt_2 : decode cX9_signAt 2 = .ok (.getfield 105, 3) := by decide +kernel
theorem dX9_signAt_5 : decode cX9_signAt 5 = .ok (.if_icmp .ge 12, 3) := by decide +kernel
theorem dX9_signAt_8 : decode cX9_signAt 8 = .ok (.aload_n 0, 1) := by decide +kernel
theorem dX9_signAt_9 : decode cX9_signAt 9 = .ok (.getfield 16, 3) := by decide +kernel
theorem dX9_signAt_12 : decode cX9_signAt 12 = .ok (.iload_n 1, 1) := by decide +kernel
theorem dX9_signAt_13 : decode cX9_signAt 13 = .ok (.caload, 1) := by decide +kernel
theorem dX9_signAt_14 : decode cX9_signAt 14 = .ok (.goto 4, 3) := by decide +kernel
theorem dX9_signAt_17 : decode cX9_signAt 17 = .ok (.iconst 0, 1) := by decide +kernel
theorem dX9_signAt_18 : decode cX9_signAt 18 = .ok (.ireturn, 1) := by decide +kernel
theorem dX9_isDigit_0 : decode cX9_isDigit 0 = .ok (.aload_n 0, 1) := by decide +kernel
theorem dX9_isDigit_1 : decode cX9_isDigit 1 = .ok (.iload_n 1, 1) := by decide +kernel
end
section
theorem dX9_isDigit_2 : decode cX9_isDigit 2 = .ok (.invokevirtual 131, 3) := by decide +kernel
theorem dX9_isDigit_5 : decode cX9_isDigit 5 = .ok (.bipush 48, 2) := by decide +kernel
theorem dX9_isDigit_7 : decode cX9_isDigit 7 = .ok (.bipush 57, 2) := by decide +kernel
theorem dX9_isDigit_9 : decode cX9_isDigit 9 = .ok (.invokestatic 38, 3) := by decide +kernel
theorem dX9_isDigit_12 : decode cX9_isDigit 12 = .ok (.ireturn, 1) := by decide +kernel
theorem dX9_fault_0 : decode cX9_fault 0 = .ok (.iconst 0, 1) := by decide +kernel
theorem dX9_fault_1 : decode cX9_fault 1 = .ok (.istore_n 1, 1) := by decide +kernel
theorem dX9_fault_2 : decode cX9_fault 2 = .ok (.iconst 0, 1) := by decide +kernel
theorem dX9_fault_3 : decode cX9_fault 3 = .ok (.istore_n 2, 1) := by decide +kernel
theorem dX9_fault_4 : decode cX9_fault 4 = .ok (.iload_n 2, 1) := by decide +kernel
theorem dX9_fault_5 : decode cX9_fault 5 = .ok (.iconst 4, 1) := by decide +kernel
theorem dX9_fault_6 : decode cX9_fault 6 = .ok (.if_icmp .ge 194, 3) := by decide +kernel
theorem dX9_fault_9 : decode cX9_fault 9 = .ok (.aload_n 0, 1) := by decide +kernel
theorem dX9_fault_10 : decode cX9_fault 10 = .ok (.iload_n 1, 1) := by decide +kernel
theorem dX9_fault_11 : decode cX9_fault 11 = .ok (.invokevirtual 131, 3) := by decide +kernel
theorem dX9_fault_14 : decode cX9_fault 14 = .ok (.bipush 45, 2) := by decide +kernel
theorem dX9_fault_16 : decode cX9_fault 16 = .ok (.if_icmp .ne 7, 3) := by decide +kernel
theorem dX9_fault_19 : decode cX9_fault 19 = .ok (.iconst 1, 1) := by decide +kernel
theorem dX9_fault_20 : decode cX9_fault 20 = .ok (.goto 4, 3) := by decide +kernel
theorem dX9_fault_23 : decode cX9_fault 23 = .ok (.iconst 0, 1) := by decide +kernel
theorem dX9_fault_24 : decode cX9_fault 24 = .ok (.istore_n 3, 1) := by decide +kernel
theorem dX9_fault_25 : decode cX9_fault 25 = .ok (.aload_n 0, 1) := by decide +kernel
theorem dX9_fault_26 : decode cX9_fault 26 = .ok (.getfield 26, 3) := by decide +kernel
theorem dX9_fault_29 : decode cX9_fault 29 = .ok (.iload_n 2, 1) := by decide +kernel
theorem dX9_fault_30 : decode cX9_fault 30 = .ok (.iload_n 3, 1) := by decide +kernel
theorem dX9_fault_31 : decode cX9_fault 31 = .ok (.ifCond .eq 7, 3) := by decide +kernel
theorem dX9_fault_34 : decode cX9_fault 34 = .ok (.iconst (-1), 1) := by decide +kernel
theorem dX9_fault_35 : decode cX9_fault 35 = .ok (.goto 4, 3) := by decide +kernel
theorem dX9_fault_38 : decode cX9_fault 38 = .ok (.iconst 0, 1) := by decide +kernel
theorem dX9_fault_39 : decode cX9_fault 39 = .ok (.iastore, 1) := by decide +kernel
theorem dX9_fault_40 : decode cX9_fault 40 = .ok (.iconst 0, 1) := by decide +kernel
theorem dX9_fault_41 : decode cX9_fault 41 = .ok (.istore 4, 2) := by decide +kernel
theorem dX9_fault_43 : decode cX9_fault 43 = .ok (.iload 4, 2) := by decide +kernel
theorem dX9_fault_45 : decode cX9_fault 45 = .ok (.iconst 3, 1) := by decide +kernel
theorem dX9_fault_46 : decode cX9_fault 46 = .ok (.if_icmp .ge 51, 3) := by decide +kernel
theorem dX9_fault_49 : decode cX9_fault 49 = .ok (.iload_n 3, 1) := by decide +kernel
theorem dX9_fault_50 : decode cX9_fault 50 = .ok (.ifCond .ne 47, 3) := by decide +kernel
theorem dX9_fault_53 : decode cX9_fault 53 = .ok (.aload_n 0, 1) := by decide +kernel
theorem dX9_fault_54 : decode cX9_fault 54 = .ok (.iload_n 1, 1) := by decide +kernel
theorem dX9_fault_55 : decode cX9_fault 55 = .ok (.invokevirtual 134, 3) := by decide +kernel
theorem dX9_fault_58 : decode cX9_fault 58 = .ok (.ifCond .ne 5, 3) := by decide +kernel
theorem dX9_fault_61 : decode cX9_fault 61 = .ok (.iload_n 1, 1) := by decide +kernel
theorem dX9_fault_62 : decode cX9_fault 62 = .ok (.ireturn, 1) := by decide +kernel
theorem dX9_fault_63 : decode cX9_fault 63 = .ok (.aload_n 0, 1) := by decide +kernel
theorem dX9_fault_64 : decode cX9_fault 64 = .ok (.getfield 26, 3) := by decide +kernel
theorem dX9_fault_67 : decode cX9_fault 67 = .ok (.iload_n 2, 1) := by decide +kernel
theorem dX9_fault_68 : decode cX9_fault 68 = .ok (.bipush 10, 2) := by decide +kernel
theorem dX9_fault_70 : decode cX9_fault 70 = .ok (.aload_n 0, 1) := by decide +kernel
theorem dX9_fault_71 : decode cX9_fault 71 = .ok (.getfield 26, 3) := by decide +kernel
theorem dX9_fault_74 : decode cX9_fault 74 = .ok (.iload_n 2, 1) := by decide +kernel
theorem dX9_fault_75 : decode cX9_fault 75 = .ok (.iaload, 1) := by decide +kernel
theorem dX9_fault_76 : decode cX9_fault 76 = .ok (.imul, 1) := by decide +kernel
theorem dX9_fault_77 : decode cX9_fault 77 = .ok (.aload_n 0, 1) := by decide +kernel
theorem dX9_fault_78 : decode cX9_fault 78 = .ok (.getfield 16, 3) := by decide +kernel
theorem dX9_fault_81 : decode cX9_fault 81 = .ok (.iload_n 1, 1) := by decide +kernel
theorem dX9_fault_82 : decode cX9_fault 82 = .ok (.caload, 1) := by decide +kernel
theorem dX9_fault_83 : decode cX9_fault 83 = .ok (.iadd, 1) := by decide +kernel
theorem dX9_fault_84 : decode cX9_fault 84 = .ok (.bipush 48, 2) := by decide +kernel
theorem dX9_fault_86 : decode cX9_fault 86 = .ok (.isub, 1) := by decide +kernel
theorem dX9_fault_87 : decode cX9_fault 87 = .ok (.iastore, 1) := by decide +kernel
theorem dX9_fault_88 : decode cX9_fault 88 = .ok (.iinc 1 1, 3) := by decide +kernel
theorem dX9_fault_91 : decode cX9_fault 91 = .ok (.iinc 4 1, 3) := by decide +kernel
theorem dX9_fault_94 : decode cX9_fault 94 = .ok (.goto (-51), 3) := by decide +kernel
theorem dX9_fault_97 : decode cX9_fault 97 = .ok (.iload_n 1, 1) := by decide +kernel
theorem dX9_fault_98 : decode cX9_fault 98 = .ok (.iload_n 3, 1) := by decide +kernel
theorem dX9_fault_99 : decode cX9_fault 99 = .ok (.ifCond .eq 7, 3) := by decide +kernel
theorem dX9_fault_102 : decode cX9_fault 102 = .ok (.iconst 1, 1) := by decide +kernel
theorem dX9_fault_103 : decode cX9_fault 103 = .ok (.goto 4, 3) := by decide +kernel
theorem dX9_fault_106 : decode cX9_fault 106 = .ok (.iconst 0, 1) := by decide +kernel
theorem dX9_fault_107 : decode cX9_fault 107 = .ok (.iadd, 1) := by decide +kernel
theorem dX9_fault_108 : decode cX9_fault 108 = .ok (.istore_n 1, 1) := by decide +kernel
theorem dX9_fault_109 : decode cX9_fault 109 = .ok (.aload_n 0, 1) := by decide +kernel
theorem dX9_fault_110 : decode cX9_fault 110 = .ok (.iload_n 1, 1) := by decide +kernel
theorem dX9_fault_111 : decode cX9_fault 111 = .ok (.invokevirtual 131, 3) := by decide +kernel
theorem dX9_fault_114 : decode cX9_fault 114 = .ok (.bipush 47, 2) := by decide +kernel
theorem dX9_fault_116 : decode cX9_fault 116 = .ok (.if_icmp .eq 5, 3) := by decide +kernel
theorem dX9_fault_119 : decode cX9_fault 119 = .ok (.iload_n 1, 1) := by decide +kernel
theorem dX9_fault_120 : decode cX9_fault 120 = .ok (.ireturn, 1) := by decide +kernel
theorem dX9_fault_121 : decode cX9_fault 121 = .ok (.iinc 1 1, 3) := by decide +kernel
theorem dX9_fault_124 : decode cX9_fault 124 = .ok (.aload_n 0, 1) := by decide +kernel
theorem dX9_fault_125 : decode cX9_fault 125 = .ok (.iload_n 1, 1) := by decide +kernel
theorem dX9_fault_126 : decode cX9_fault 126 = .ok (.invokevirtual 134, 3) := by decide +kernel
theorem dX9_fault_129 : decode cX9_fault 129 = .ok (.ifCond .eq 18, 3) := by decide +kernel
theorem dX9_fault_132 : decode cX9_fault 132 = .ok (.iload_n 3, 1) := by decide +kernel
theorem dX9_fault_133 : decode cX9_fault 133 = .ok (.ifCond .eq 16, 3) := by decide +kernel
theorem dX9_fault_136 : decode cX9_fault 136 = .ok (.aload_n 0, 1) := by decide +kernel
theorem dX9_fault_137 : decode cX9_fault 137 = .ok (.getfield 16, 3) := by decide +kernel
theorem dX9_fault_140 : decode cX9_fault 140 = .ok (.iload_n 1, 1) := by decide +kernel
theorem dX9_fault_141 : decode cX9_fault 141 = .ok (.caload, 1) := by decide +kernel
theorem dX9_fault_142 : decode cX9_fault 142 = .ok (.bipush 48, 2) := by decide +kernel
theorem dX9_fault_144 : decode cX9_fault 144 = .ok (.if_icmp .eq 5, 3) := by decide +kernel
theorem dX9_fault_147 : decode cX9_fault 147 = .ok (.iload_n 1, 1) := by decide +kernel
theorem dX9_fault_148 : decode cX9_fault 148 = .ok (.ireturn, 1) := by decide +kernel
theorem dX9_fault_149 : decode cX9_fault 149 = .ok (.aload_n 0, 1) := by decide +kernel
theorem dX9_fault_150 : decode cX9_fault 150 = .ok (.getfield 26, 3) := by decide +kernel
theorem dX9_fault_153 : decode cX9_fault 153 = .ok (.iconst 4, 1) := by decide +kernel
theorem dX9_fault_154 : decode cX9_fault 154 = .ok (.iload_n 2, 1) := by decide +kernel
theorem dX9_fault_155 : decode cX9_fault 155 = .ok (.iadd, 1) := by decide +kernel
theorem dX9_fault_156 : decode cX9_fault 156 = .ok (.aload_n 0, 1) := by decide +kernel
theorem dX9_fault_157 : decode cX9_fault 157 = .ok (.getfield 16, 3) := by decide +kernel
theorem dX9_fault_160 : decode cX9_fault 160 = .ok (.iload_n 1, 1) := by decide +kernel
theorem dX9_fault_161 : decode cX9_fault 161 = .ok (.caload, 1) := by decide +kernel
theorem dX9_fault_162 : decode cX9_fault 162 = .ok (.bipush 48, 2) := by decide +kernel
theorem dX9_fault_164 : decode cX9_fault 164 = .ok (.isub, 1) := by decide +kernel
theorem dX9_fault_165 : decode cX9_fault 165 = .ok (.iastore, 1) := by decide +kernel
theorem dX9_fault_166 : decode cX9_fault 166 = .ok (.iinc 1 1, 3) := by decide +kernel
theorem dX9_fault_169 : decode cX9_fault 169 = .ok (.aload_n 0, 1) := by decide +kernel
theorem dX9_fault_170 : decode cX9_fault 170 = .ok (.iload_n 1, 1) := by decide +kernel
theorem dX9_fault_171 : decode cX9_fault 171 = .ok (.invokevirtual 131, 3) := by decide +kernel
theorem dX9_fault_174 : decode cX9_fault 174 = .ok (.iload_n 2, 1) := by decide +kernel
theorem dX9_fault_175 : decode cX9_fault 175 = .ok (.iconst 3, 1) := by decide +kernel
theorem dX9_fault_176 : decode cX9_fault 176 = .ok (.if_icmp .ge 8, 3) := by decide +kernel
theorem dX9_fault_179 : decode cX9_fault 179 = .ok (.bipush 44, 2) := by decide +kernel
theorem dX9_fault_181 : decode cX9_fault 181 = .ok (.goto 5, 3) := by decide +kernel
theorem dX9_fault_184 : decode cX9_fault 184 = .ok (.bipush 59, 2) := by decide +kernel
theorem dX9_fault_186 : decode cX9_fault 186 = .ok (.if_icmp .eq 5, 3) := by decide +kernel
theorem dX9_fault_189 : decode cX9_fault 189 = .ok (.iload_n 1, 1) := by decide +kernel
theorem dX9_fault_190 : decode cX9_fault 190 = .ok (.ireturn, 1) := by decide +kernel
theorem dX9_fault_191 : decode cX9_fault 191 = .ok (.iinc 1 1, 3) := by decide +kernel
theorem dX9_fault_194 : decode cX9_fault 194 = .ok (.iinc 2 1, 3) := by decide +kernel
theorem dX9_fault_197 : decode cX9_fault 197 = .ok (.goto (-193), 3) := by decide +kernel
theorem dX9_fault_200 : decode cX9_fault 200 = .ok (.aload_n 0, 1) := by decide +kernel
theorem dX9_fault_201 : decode cX9_fault 201 = .ok (.iload_n 1, 1) := by decide +kernel
theorem dX9_fault_202 : decode cX9_fault 202 = .ok (.invokevirtual 131, 3) := by decide +kernel
theorem dX9_fault_205 : decode cX9_fault 205 = .ok (.bipush 48, 2) := by decide +kernel
theorem dX9_fault_207 : decode cX9_fault 207 = .ok (.bipush 49, 2) := by decide +kernel
theorem dX9_fault_209 : decode cX9_fault 209 = .ok (.invokestatic 38, 3) := by decide +kernel
theorem dX9_fault_212 : decode cX9_fault 212 = .ok (.ifCond .ne 5, 3) := by decide +kernel
theorem dX9_fault_215 : decode cX9_fault 215 = .ok (.iload_n 1, 1) := by decide +kernel
theorem dX9_fault_216 : decode cX9_fault 216 = .ok (.ireturn, 1) := by decide +kernel
theorem dX9_fault_217 : decode cX9_fault 217 = .ok (.aload_n 0, 1) := by decide +kernel
theorem dX9_fault_218 : decode cX9_fault 218 = .ok (.getfield 26, 3) := by decide +kernel
theorem dX9_fault_221 : decode cX9_fault 221 = .ok (.bipush 8, 2) := by decide +kernel
theorem dX9_fault_223 : decode cX9_fault 223 = .ok (.aload_n 0, 1) := by decide +kernel
theorem dX9_fault_224 : decode cX9_fault 224 = .ok (.getfield 16, 3) := by decide +kernel
theorem dX9_fault_227 : decode cX9_fault 227 = .ok (.iload_n 1, 1) := by decide +kernel
theorem dX9_fault_228 : decode cX9_fault 228 = .ok (.caload, 1) := by decide +kernel
theorem dX9_fault_229 : decode cX9_fault 229 = .ok (.bipush 48, 2) := by decide +kernel
theorem dX9_fault_231 : decode cX9_fault 231 = .ok (.isub, 1) := by decide +kernel
theorem dX9_fault_232 : decode cX9_fault 232 = .ok (.iastore, 1) := by decide +kernel
theorem dX9_fault_233 : decode cX9_fault 233 = .ok (.iinc 1 1, 3) := by decide +kernel
theorem dX9_fault_236 : decode cX9_fault 236 = .ok (.iload_n 1, 1) := by decide +kernel
theorem dX9_fault_237 : decode cX9_fault 237 = .ok (.aload_n 0, 1) := by decide +kernel
theorem dX9_fault_238 : decode cX9_fault 238 = .ok (.getfield 105, 3) := by decide +kernel
theorem dX9_fault_241 : decode cX9_fault 241 = .ok (.if_icmp .ne 9, 3) := by decide +kernel
theorem dX9_fault_244 : decode cX9_fault 244 = .ok (.sipush (-1004), 3) := by decide +kernel
theorem dX9_fault_247 : decode cX9_fault 247 = .ok (.goto 4, 3) := by decide +kernel
theorem dX9_fault_250 : decode cX9_fault 250 = .ok (.iload_n 1, 1) := by decide +kernel
theorem dX9_fault_251 : decode cX9_fault 251 = .ok (.ireturn, 1) := by decide +kernel
theorem dJ9_max_7cf53_0 : decode cJ9_max_7cf53 0 = .ok (.iload_n 0, 1) := by decide +kernel
theorem dJ9_max_7cf53_1 : decode cJ9_max_7cf53 1 = .ok (.iload_n 1, 1) := by decide +kernel
theorem dJ9_max_7cf53_2 : decode cJ9_max_7cf53 2 = .ok (.if_icmp .lt 7, 3) := by decide +kernel
theorem dJ9_max_7cf53_5 : decode cJ9_max_7cf53 5 = .ok (.iload_n 0, 1) := by decide +kernel
theorem dJ9_max_7cf53_6 : decode cJ9_max_7cf53 6 = .ok (.goto 4, 3) := by decide +kernel
theorem dJ9_max_7cf53_9 : decode cJ9_max_7cf53 9 = .ok (.iload_n 1, 1) := by decide +kernel
theorem dJ9_max_7cf53_10 : decode cJ9_max_7cf53 10 = .ok (.ireturn, 1) := by decide +kernel
theorem dJ9_min_7cf53_0 : decode cJ9_min_7cf53 0 = .ok (.iload_n 0, 1) := by decide +kernel
theorem dJ9_min_7cf53_1 : decode cJ9_min_7cf53 1 = .ok (.iload_n 1, 1) := by decide +kernel
theorem dJ9_min_7cf53_2 : decode cJ9_min_7cf53 2 = .ok (.if_icmp .gt 7, 3) := by decide +kernel
theorem dJ9_min_7cf53_5 : decode cJ9_min_7cf53 5 = .ok (.iload_n 0, 1) := by decide +kernel
theorem dJ9_min_7cf53_6 : decode cJ9_min_7cf53 6 = .ok (.goto 4, 3) := by decide +kernel
theorem dJ9_min_7cf53_9 : decode cJ9_min_7cf53 9 = .ok (.iload_n 1, 1) := by decide +kernel
theorem dJ9_min_7cf53_10 : decode cJ9_min_7cf53 10 = .ok (.ireturn, 1) := by decide +kernel
theorem dJ7_fill_53178_0 : decode cJ7_fill_53178 0 = .ok (.iconst 0, 1) := by decide +kernel
theorem dJ7_fill_53178_1 : decode cJ7_fill_53178 1 = .ok (.istore_n 2, 1) := by decide +kernel
theorem dJ7_fill_53178_2 : decode cJ7_fill_53178 2 = .ok (.aload_n 0, 1) := by decide +kernel
theorem dJ7_fill_53178_3 : decode cJ7_fill_53178 3 = .ok (.arraylength, 1) := by decide +kernel
theorem dJ7_fill_53178_4 : decode cJ7_fill_53178 4 = .ok (.istore_n 3, 1) := by decide +kernel
theorem dJ7_fill_53178_5 : decode cJ7_fill_53178 5 = .ok (.iload_n 2, 1) := by decide +kernel
theorem dJ7_fill_53178_6 : decode cJ7_fill_53178 6 = .ok (.iload_n 3, 1) := by decide +kernel
theorem dJ7_fill_53178_7 : decode cJ7_fill_53178 7 = .ok (.if_icmp .ge 13, 3) := by decide +kernel
theorem dJ7_fill_53178_10 : decode cJ7_fill_53178 10 = .ok (.aload_n 0, 1) := by decide +kernel
theorem dJ7_fill_53178_11 : decode cJ7_fill_53178 11 = .ok (.iload_n 2, 1) := by decide +kernel
theorem dJ7_fill_53178_12 : decode cJ7_fill_53178 12 = .ok (.iload_n 1, 1) := by decide +kernel
theorem dJ7_fill_53178_13 : decode cJ7_fill_53178 13 = .ok (.iastore, 1) := by decide +kernel
theorem dJ7_fill_53178_14 : decode cJ7_fill_53178 14 = .ok (.iinc 2 1, 3) := by decide +kernel
theorem dJ7_fill_53178_17 : decode cJ7_fill_53178 17 = .ok (.goto (-12), 3) := by decide +kernel
theorem dJ7_fill_53178_20 : decode cJ7_fill_53178 20 = .ok (.return_, 1) := by decide +kernel
theorem dL_law_0 : decode cL_law 0 = .ok (.new 7, 3) := by decide +kernel
theorem dL_law_3 : decode cL_law 3 = .ok (.dup, 1) := by decide +kernel
theorem dL_law_4 : decode cL_law 4 = .ok (.invokespecial 9, 3) := by decide +kernel
theorem dL_law_7 : decode cL_law 7 = .ok (.astore_n 1, 1) := by decide +kernel
theorem dL_law_8 : decode cL_law 8 = .ok (.new 10, 3) := by decide +kernel
theorem dL_law_11 : decode cL_law 11 = .ok (.dup, 1) := by decide +kernel
theorem dL_law_12 : decode cL_law 12 = .ok (.invokespecial 12, 3) := by decide +kernel
theorem dL_law_15 : decode cL_law 15 = .ok (.astore_n 2, 1) := by decide +kernel
theorem dL_law_16 : decode cL_law 16 = .ok (.iconst 0, 1) := by decide +kernel
theorem dL_law_17 : decode cL_law 17 = .ok (.istore_n 3, 1) := by decide +kernel
theorem dL_law_18 : decode cL_law 18 = .ok (.iload_n 3, 1) := by decide +kernel
theorem dL_law_19 : decode cL_law 19 = .ok (.aload_n 0, 1) := by decide +kernel
theorem dL_law_20 : decode cL_law 20 = .ok (.arraylength, 1) := by decide +kernel
theorem dL_law_21 : decode cL_law 21 = .ok (.bipush 6, 2) := by decide +kernel
theorem dL_law_23 : decode cL_law 23 = .ok (.isub, 1) := by decide +kernel
theorem dL_law_24 : decode cL_law 24 = .ok (.if_icmp .gt 734, 3) := by decide +kernel
theorem dL_law_27 : decode cL_law 27 = .ok (.aload_n 0, 1) := by decide +kernel
theorem dL_law_28 : decode cL_law 28 = .ok (.iload_n 3, 1) := by decide +kernel
theorem dL_law_29 : decode cL_law 29 = .ok (.iaload, 1) := by decide +kernel
theorem dL_law_30 : decode cL_law 30 = .ok (.bipush 31, 2) := by decide +kernel
theorem dL_law_32 : decode cL_law 32 = .ok (.iand, 1) := by decide +kernel
theorem dL_law_33 : decode cL_law 33 = .ok (.tableswitch 719 0 21 #[103, 136, 199, 212, 235, 268, 321, 334, 357, 400, 443, 466, 499, 522, 555, 588, 611, 624, 657, 670, 693, 706], 103) := by decide +kernel
theorem dL_law_136 : decode cL_law 136 = .ok (.aload_n 1, 1) := by decide +kernel
theorem dL_law_137 : decode cL_law 137 = .ok (.aload_n 0, 1) := by decide +kernel
theorem dL_law_138 : decode cL_law 138 = .ok (.iload_n 3, 1) := by decide +kernel
theorem dL_law_139 : decode cL_law 139 = .ok (.iconst 1, 1) := by decide +kernel
theorem dL_law_140 : decode cL_law 140 = .ok (.iadd, 1) := by decide +kernel
theorem dL_law_141 : decode cL_law 141 = .ok (.iaload, 1) := by decide +kernel
theorem dL_law_142 : decode cL_law 142 = .ok (.aload_n 0, 1) := by decide +kernel
theorem dL_law_143 : decode cL_law 143 = .ok (.iload_n 3, 1) := by decide +kernel
theorem dL_law_144 : decode cL_law 144 = .ok (.iconst 2, 1) := by decide +kernel
theorem dL_law_145 : decode cL_law 145 = .ok (.iadd, 1) := by decide +kernel
theorem dL_law_146 : decode cL_law 146 = .ok (.iaload, 1) := by decide +kernel
theorem dL_law_147 : decode cL_law 147 = .ok (.invokevirtual 13, 3) := by decide +kernel
theorem dL_law_150 : decode cL_law 150 = .ok (.aload_n 2, 1) := by decide +kernel
theorem dL_law_151 : decode cL_law 151 = .ok (.aload_n 0, 1) := by decide +kernel
theorem dL_law_152 : decode cL_law 152 = .ok (.iload_n 3, 1) := by decide +kernel
theorem dL_law_153 : decode cL_law 153 = .ok (.iconst 1, 1) := by decide +kernel
theorem dL_law_154 : decode cL_law 154 = .ok (.iadd, 1) := by decide +kernel
theorem dL_law_155 : decode cL_law 155 = .ok (.iaload, 1) := by decide +kernel
theorem dL_law_156 : decode cL_law 156 = .ok (.aload_n 0, 1) := by decide +kernel
theorem dL_law_157 : decode cL_law 157 = .ok (.iload_n 3, 1) := by decide +kernel
theorem dL_law_158 : decode cL_law 158 = .ok (.iconst 2, 1) := by decide +kernel
theorem dL_law_159 : decode cL_law 159 = .ok (.iadd, 1) := by decide +kernel
theorem dL_law_160 : decode cL_law 160 = .ok (.iaload, 1) := by decide +kernel
theorem dL_law_161 : decode cL_law 161 = .ok (.invokevirtual 17, 3) := by decide +kernel
theorem dL_law_164 : decode cL_law 164 = .ok (.if_icmp .eq 588, 3) := by decide +kernel
theorem dL_law_167 : decode cL_law 167 = .ok (.iconst 0, 1) := by decide +kernel
theorem dL_law_168 : decode cL_law 168 = .ok (.ireturn, 1) := by decide +kernel
theorem dL_law_169 : decode cL_law 169 = .ok (.aload_n 1, 1) := by decide +kernel
theorem dL_law_170 : decode cL_law 170 = .ok (.aload_n 0, 1) := by decide +kernel
theorem dL_law_171 : decode cL_law 171 = .ok (.iload_n 3, 1) := by decide +kernel
theorem dL_law_172 : decode cL_law 172 = .ok (.iconst 1, 1) := by decide +kernel
theorem dL_law_173 : decode cL_law 173 = .ok (.iadd, 1) := by decide +kernel
theorem dL_law_174 : decode cL_law 174 = .ok (.iaload, 1) := by decide +kernel
theorem dL_law_175 : decode cL_law 175 = .ok (.aload_n 0, 1) := by decide +kernel
theorem dL_law_176 : decode cL_law 176 = .ok (.iload_n 3, 1) := by decide +kernel
theorem dL_law_177 : decode cL_law 177 = .ok (.iconst 2, 1) := by decide +kernel
theorem dL_law_178 : decode cL_law 178 = .ok (.iadd, 1) := by decide +kernel
theorem dL_law_179 : decode cL_law 179 = .ok (.iaload, 1) := by decide +kernel
theorem dL_law_180 : decode cL_law 180 = .ok (.aload_n 0, 1) := by decide +kernel
theorem dL_law_181 : decode cL_law 181 = .ok (.iload_n 3, 1) := by decide +kernel
theorem dL_law_182 : decode cL_law 182 = .ok (.iconst 3, 1) := by decide +kernel
theorem dL_law_183 : decode cL_law 183 = .ok (.iadd, 1) := by decide +kernel
theorem dL_law_184 : decode cL_law 184 = .ok (.iaload, 1) := by decide +kernel
theorem dL_law_185 : decode cL_law 185 = .ok (.aload_n 0, 1) := by decide +kernel
theorem dL_law_186 : decode cL_law 186 = .ok (.iload_n 3, 1) := by decide +kernel
theorem dL_law_187 : decode cL_law 187 = .ok (.iconst 4, 1) := by decide +kernel
theorem dL_law_188 : decode cL_law 188 = .ok (.iadd, 1) := by decide +kernel
theorem dL_law_189 : decode cL_law 189 = .ok (.iaload, 1) := by decide +kernel
theorem dL_law_190 : decode cL_law 190 = .ok (.aload_n 0, 1) := by decide +kernel
theorem dL_law_191 : decode cL_law 191 = .ok (.iload_n 3, 1) := by decide +kernel
theorem dL_law_192 : decode cL_law 192 = .ok (.iconst 5, 1) := by decide +kernel
theorem dL_law_193 : decode cL_law 193 = .ok (.iadd, 1) := by decide +kernel
theorem dL_law_194 : decode cL_law 194 = .ok (.iaload, 1) := by decide +kernel
theorem dL_law_195 : decode cL_law 195 = .ok (.invokevirtual 18, 3) := by decide +kernel
theorem dL_law_198 : decode cL_law 198 = .ok (.aload_n 2, 1) := by decide +kernel
theorem dL_law_199 : decode cL_law 199 = .ok (.aload_n 0, 1) := by decide +kernel
theorem dL_law_200 : decode cL_law 200 = .ok (.iload_n 3, 1) := by decide +kernel
theorem dL_law_201 : decode cL_law 201 = .ok (.iconst 1, 1) := by decide +kernel
theorem dL_law_202 : decode cL_law 202 = .ok (.iadd, 1) := by decide +kernel
theorem dL_law_203 : decode cL_law 203 = .ok (.iaload, 1) := by decide +kernel
theorem dL_law_204 : decode cL_law 204 = .ok (.aload_n 0, 1) := by decide +kernel
theorem dL_law_205 : decode cL_law 205 = .ok (.iload_n 3, 1) := by decide +kernel
theorem dL_law_206 : decode cL_law 206 = .ok (.iconst 2, 1) := by decide +kernel
theorem dL_law_207 : decode cL_law 207 = .ok (.iadd, 1) := by decide +kernel
theorem dL_law_208 : decode cL_law 208 = .ok (.iaload, 1) := by decide +kernel
theorem dL_law_209 : decode cL_law 209 = .ok (.aload_n 0, 1) := by decide +kernel
theorem dL_law_210 : decode cL_law 210 = .ok (.iload_n 3, 1) := by decide +kernel
theorem dL_law_211 : decode cL_law 211 = .ok (.iconst 3, 1) := by decide +kernel
theorem dL_law_212 : decode cL_law 212 = .ok (.iadd, 1) := by decide +kernel
theorem dL_law_213 : decode cL_law 213 = .ok (.iaload, 1) := by decide +kernel
theorem dL_law_214 : decode cL_law 214 = .ok (.aload_n 0, 1) := by decide +kernel
theorem dL_law_215 : decode cL_law 215 = .ok (.iload_n 3, 1) := by decide +kernel
theorem dL_law_216 : decode cL_law 216 = .ok (.iconst 4, 1) := by decide +kernel
theorem dL_law_217 : decode cL_law 217 = .ok (.iadd, 1) := by decide +kernel
theorem dL_law_218 : decode cL_law 218 = .ok (.iaload, 1) := by decide +kernel
theorem dL_law_219 : decode cL_law 219 = .ok (.aload_n 0, 1) := by decide +kernel
theorem dL_law_220 : decode cL_law 220 = .ok (.iload_n 3, 1) := by decide +kernel
theorem dL_law_221 : decode cL_law 221 = .ok (.iconst 5, 1) := by decide +kernel
theorem dL_law_222 : decode cL_law 222 = .ok (.iadd, 1) := by decide +kernel
theorem dL_law_223 : decode cL_law 223 = .ok (.iaload, 1) := by decide +kernel
theorem dL_law_224 : decode cL_law 224 = .ok (.invokevirtual 22, 3) := by decide +kernel
theorem dL_law_227 : decode cL_law 227 = .ok (.if_icmp .eq 525, 3) := by decide +kernel
theorem dL_law_230 : decode cL_law 230 = .ok (.iconst 0, 1) := by decide +kernel
theorem dL_law_231 : decode cL_law 231 = .ok (.ireturn, 1) := by decide +kernel
theorem dL_law_232 : decode cL_law 232 = .ok (.aload_n 1, 1) := by decide +kernel
theorem dL_law_233 : decode cL_law 233 = .ok (.invokevirtual 23, 3) := by decide +kernel
theorem dL_law_236 : decode cL_law 236 = .ok (.aload_n 2, 1) := by decide +kernel
theorem dL_law_237 : decode cL_law 237 = .ok (.invokevirtual 27, 3) := by decide +kernel
theorem dL_law_240 : decode cL_law 240 = .ok (.if_icmp .eq 512, 3) := by decide +kernel
theorem dL_law_243 : decode cL_law 243 = .ok (.iconst 0, 1) := by decide +kernel
theorem dL_law_244 : decode cL_law 244 = .ok (.ireturn, 1) := by decide +kernel
theorem dL_law_245 : decode cL_law 245 = .ok (.aload_n 1, 1) := by decide +kernel
theorem dL_law_246 : decode cL_law 246 = .ok (.aload_n 0, 1) := by decide +kernel
theorem dL_law_247 : decode cL_law 247 = .ok (.iload_n 3, 1) := by decide +kernel
theorem dL_law_248 : decode cL_law 248 = .ok (.iconst 1, 1) := by decide +kernel
theorem dL_law_249 : decode cL_law 249 = .ok (.iadd, 1) := by decide +kernel
theorem dL_law_250 : decode cL_law 250 = .ok (.iaload, 1) := by decide +kernel
theorem dL_law_251 : decode cL_law 251 = .ok (.invokevirtual 28, 3) := by decide +kernel
theorem dL_law_254 : decode cL_law 254 = .ok (.aload_n 2, 1) := by decide +kernel
theorem dL_law_255 : decode cL_law 255 = .ok (.aload_n 0, 1) := by decide +kernel
theorem dL_law_256 : decode cL_law 256 = .ok (.iload_n 3, 1) := by decide +kernel
theorem dL_law_257 : decode cL_law 257 = .ok (.iconst 1, 1) := by decide +kernel
theorem dL_law_258 : decode cL_law 258 = .ok (.iadd, 1) := by decide +kernel
theorem dL_law_259 : decode cL_law 259 = .ok (.iaload, 1) := by decide +kernel
theorem dL_law_260 : decode cL_law 260 = .ok (.invokevirtual 32, 3) := by decide +kernel
theorem dL_law_263 : decode cL_law 263 = .ok (.if_icmp .eq 489, 3) := by decide +kernel
theorem dL_law_266 : decode cL_law 266 = .ok (.iconst 0, 1) := by decide +kernel
theorem dL_law_267 : decode cL_law 267 = .ok (.ireturn, 1) := by decide +kernel
theorem dL_law_268 : decode cL_law 268 = .ok (.aload_n 1, 1) := by decide +kernel
theorem dL_law_269 : decode cL_law 269 = .ok (.aload_n 0, 1) := by decide +kernel
theorem dL_law_270 : decode cL_law 270 = .ok (.iload_n 3, 1) := by decide +kernel
theorem dL_law_271 : decode cL_law 271 = .ok (.iconst 1, 1) := by decide +kernel
theorem dL_law_272 : decode cL_law 272 = .ok (.iadd, 1) := by decide +kernel
theorem dL_law_273 : decode cL_law 273 = .ok (.iaload, 1) := by decide +kernel
theorem dL_law_274 : decode cL_law 274 = .ok (.aload_n 0, 1) := by decide +kernel
theorem dL_law_275 : decode cL_law 275 = .ok (.iload_n 3, 1) := by decide +kernel
theorem dL_law_276 : decode cL_law 276 = .ok (.iconst 2, 1) := by decide +kernel
theorem dL_law_277 : decode cL_law 277 = .ok (.iadd, 1) := by decide +kernel
theorem dL_law_278 : decode cL_law 278 = .ok (.iaload, 1) := by decide +kernel
theorem dL_law_279 : decode cL_law 279 = .ok (.invokevirtual 33, 3) := by decide +kernel
theorem dL_law_282 : decode cL_law 282 = .ok (.aload_n 2, 1) := by decide +kernel
theorem dL_law_283 : decode cL_law 283 = .ok (.aload_n 0, 1) := by decide +kernel
theorem dL_law_284 : decode cL_law 284 = .ok (.iload_n 3, 1) := by decide +kernel
theorem dL_law_285 : decode cL_law 285 = .ok (.iconst 1, 1) := by decide +kernel
theorem dL_law_286 : decode cL_law 286 = .ok (.iadd, 1) := by decide +kernel
theorem dL_law_287 : decode cL_law 287 = .ok (.iaload, 1) := by decide +kernel
theorem dL_law_288 : decode cL_law 288 = .ok (.aload_n 0, 1) := by decide +kernel
theorem dL_law_289 : decode cL_law 289 = .ok (.iload_n 3, 1) := by decide +kernel
theorem dL_law_290 : decode cL_law 290 = .ok (.iconst 2, 1) := by decide +kernel
theorem dL_law_291 : decode cL_law 291 = .ok (.iadd, 1) := by decide +kernel
theorem dL_law_292 : decode cL_law 292 = .ok (.iaload, 1) := by decide +kernel
theorem dL_law_293 : decode cL_law 293 = .ok (.invokevirtual 36, 3) := by decide +kernel
theorem dL_law_296 : decode cL_law 296 = .ok (.if_icmp .eq 456, 3) := by decide +kernel
theorem dL_law_299 : decode cL_law 299 = .ok (.iconst 0, 1) := by decide +kernel
theorem dL_law_300 : decode cL_law 300 = .ok (.ireturn, 1) := by decide +kernel
theorem dL_law_301 : decode cL_law 301 = .ok (.aload_n 1, 1) := by decide +kernel
theorem dL_law_302 : decode cL_law 302 = .ok (.aload_n 0, 1) := by decide +kernel
theorem dL_law_303 : decode cL_law 303 = .ok (.iload_n 3, 1) := by decide +kernel
theorem dL_law_304 : decode cL_law 304 = .ok (.iconst 1, 1) := by decide +kernel
theorem dL_law_305 : decode cL_law 305 = .ok (.iadd, 1) := by decide +kernel
theorem dL_law_306 : decode cL_law 306 = .ok (.iaload, 1) := by decide +kernel
theorem dL_law_307 : decode cL_law 307 = .ok (.aload_n 0, 1) := by decide +kernel
theorem dL_law_308 : decode cL_law 308 = .ok (.iload_n 3, 1) := by decide +kernel
theorem dL_law_309 : decode cL_law 309 = .ok (.iconst 2, 1) := by decide +kernel
theorem dL_law_310 : decode cL_law 310 = .ok (.iadd, 1) := by decide +kernel
theorem dL_law_311 : decode cL_law 311 = .ok (.iaload, 1) := by decide +kernel
theorem dL_law_312 : decode cL_law 312 = .ok (.aload_n 0, 1) := by decide +kernel
theorem dL_law_313 : decode cL_law 313 = .ok (.iload_n 3, 1) := by decide +kernel
theorem dL_law_314 : decode cL_law 314 = .ok (.iconst 3, 1) := by decide +kernel
theorem dL_law_315 : decode cL_law 315 = .ok (.iadd, 1) := by decide +kernel
theorem dL_law_316 : decode cL_law 316 = .ok (.iaload, 1) := by decide +kernel
theorem dL_law_317 : decode cL_law 317 = .ok (.aload_n 0, 1) := by decide +kernel
theorem dL_law_318 : decode cL_law 318 = .ok (.iload_n 3, 1) := by decide +kernel
theorem dL_law_319 : decode cL_law 319 = .ok (.iconst 4, 1) := by decide +kernel
theorem dL_law_320 : decode cL_law 320 = .ok (.iadd, 1) := by decide +kernel
theorem dL_law_321 : decode cL_law 321 = .ok (.iaload, 1) := by decide +kernel
theorem dL_law_322 : decode cL_law 322 = .ok (.invokevirtual 37, 3) := by decide +kernel
theorem dL_law_325 : decode cL_law 325 = .ok (.aload_n 2, 1) := by decide +kernel
theorem dL_law_326 : decode cL_law 326 = .ok (.aload_n 0, 1) := by decide +kernel
theorem dL_law_327 : decode cL_law 327 = .ok (.iload_n 3, 1) := by decide +kernel
theorem dL_law_328 : decode cL_law 328 = .ok (.iconst 1, 1) := by decide +kernel
theorem dL_law_329 : decode cL_law 329 = .ok (.iadd, 1) := by decide +kernel
theorem dL_law_330 : decode cL_law 330 = .ok (.iaload, 1) := by decide +kernel
theorem dL_law_331 : decode cL_law 331 = .ok (.aload_n 0, 1) := by decide +kernel
theorem dL_law_332 : decode cL_law 332 = .ok (.iload_n 3, 1) := by decide +kernel
theorem dL_law_333 : decode cL_law 333 = .ok (.iconst 2, 1) := by decide +kernel
theorem dL_law_334 : decode cL_law 334 = .ok (.iadd, 1) := by decide +kernel
theorem dL_law_335 : decode cL_law 335 = .ok (.iaload, 1) := by decide +kernel
theorem dL_law_336 : decode cL_law 336 = .ok (.aload_n 0, 1) := by decide +kernel
theorem dL_law_337 : decode cL_law 337 = .ok (.iload_n 3, 1) := by decide +kernel
theorem dL_law_338 : decode cL_law 338 = .ok (.iconst 3, 1) := by decide +kernel
theorem dL_law_339 : decode cL_law 339 = .ok (.iadd, 1) := by decide +kernel
theorem dL_law_340 : decode cL_law 340 = .ok (.iaload, 1) := by decide +kernel
theorem dL_law_341 : decode cL_law 341 = .ok (.aload_n 0, 1) := by decide +kernel
theorem dL_law_342 : decode cL_law 342 = .ok (.iload_n 3, 1) := by decide +kernel
theorem dL_law_343 : decode cL_law 343 = .ok (.iconst 4, 1) := by decide +kernel
theorem dL_law_344 : decode cL_law 344 = .ok (.iadd, 1) := by decide +kernel
theorem dL_law_345 : decode cL_law 345 = .ok (.iaload, 1) := by decide +kernel
theorem dL_law_346 : decode cL_law 346 = .ok (.invokevirtual 41, 3) := by decide +kernel
theorem dL_law_349 : decode cL_law 349 = .ok (.if_icmp .eq 403, 3) := by decide +kernel
theorem dL_law_352 : decode cL_law 352 = .ok (.iconst 0, 1) := by decide +kernel
theorem dL_law_353 : decode cL_law 353 = .ok (.ireturn, 1) := by decide +kernel
theorem dL_law_354 : decode cL_law 354 = .ok (.aload_n 1, 1) := by decide +kernel
theorem dL_law_355 : decode cL_law 355 = .ok (.invokevirtual 42, 3) := by decide +kernel
theorem dL_law_358 : decode cL_law 358 = .ok (.aload_n 2, 1) := by decide +kernel
theorem dL_law_359 : decode cL_law 359 = .ok (.invokevirtual 45, 3) := by decide +kernel
theorem dL_law_362 : decode cL_law 362 = .ok (.if_icmp .eq 390, 3) := by decide +kernel
theorem dL_law_365 : decode cL_law 365 = .ok (.iconst 0, 1) := by decide +kernel
theorem dL_law_366 : decode cL_law 366 = .ok (.ireturn, 1) := by decide +kernel
theorem dL_law_367 : decode cL_law 367 = .ok (.aload_n 1, 1) := by decide +kernel
theorem dL_law_368 : decode cL_law 368 = .ok (.aload_n 0, 1) := by decide +kernel
theorem dL_law_369 : decode cL_law 369 = .ok (.iload_n 3, 1) := by decide +kernel
theorem dL_law_370 : decode cL_law 370 = .ok (.iconst 1, 1) := by decide +kernel
theorem dL_law_371 : decode cL_law 371 = .ok (.iadd, 1) := by decide +kernel
theorem dL_law_372 : decode cL_law 372 = .ok (.iaload, 1) := by decide +kernel
theorem dL_law_373 : decode cL_law 373 = .ok (.invokevirtual 46, 3) := by decide +kernel
theorem dL_law_376 : decode cL_law 376 = .ok (.aload_n 2, 1) := by decide +kernel
theorem dL_law_377 : decode cL_law 377 = .ok (.aload_n 0, 1) := by decide +kernel
theorem dL_law_378 : decode cL_law 378 = .ok (.iload_n 3, 1) := by decide +kernel
theorem dL_law_379 : decode cL_law 379 = .ok (.iconst 1, 1) := by decide +kernel
theorem dL_law_380 : decode cL_law 380 = .ok (.iadd, 1) := by decide +kernel
theorem dL_law_381 : decode cL_law 381 = .ok (.iaload, 1) := by decide +kernel
theorem dL_law_382 : decode cL_law 382 = .ok (.invokevirtual 49, 3) := by decide +kernel
theorem dL_law_385 : decode cL_law 385 = .ok (.if_icmp .eq 367, 3) := by decide +kernel
theorem dL_law_388 : decode cL_law 388 = .ok (.iconst 0, 1) := by decide +kernel
theorem dL_law_389 : decode cL_law 389 = .ok (.ireturn, 1) := by decide +kernel
theorem dL_law_390 : decode cL_law 390 = .ok (.aload_n 1, 1) := by decide +kernel
theorem dL_law_391 : decode cL_law 391 = .ok (.aload_n 0, 1) := by decide +kernel
theorem dL_law_392 : decode cL_law 392 = .ok (.iload_n 3, 1) := by decide +kernel
theorem dL_law_393 : decode cL_law 393 = .ok (.iconst 1, 1) := by decide +kernel
theorem dL_law_394 : decode cL_law 394 = .ok (.iadd, 1) := by decide +kernel
theorem dL_law_395 : decode cL_law 395 = .ok (.iaload, 1) := by decide +kernel
theorem dL_law_396 : decode cL_law 396 = .ok (.aload_n 0, 1) := by decide +kernel
theorem dL_law_397 : decode cL_law 397 = .ok (.iload_n 3, 1) := by decide +kernel
theorem dL_law_398 : decode cL_law 398 = .ok (.iconst 2, 1) := by decide +kernel
theorem dL_law_399 : decode cL_law 399 = .ok (.iadd, 1) := by decide +kernel
theorem dL_law_400 : decode cL_law 400 = .ok (.iaload, 1) := by decide +kernel
theorem dL_law_401 : decode cL_law 401 = .ok (.aload_n 0, 1) := by decide +kernel
theorem dL_law_402 : decode cL_law 402 = .ok (.iload_n 3, 1) := by decide +kernel
theorem dL_law_403 : decode cL_law 403 = .ok (.iconst 3, 1) := by decide +kernel
theorem dL_law_404 : decode cL_law 404 = .ok (.iadd, 1) := by decide +kernel
theorem dL_law_405 : decode cL_law 405 = .ok (.iaload, 1) := by decide +kernel
theorem dL_law_406 : decode cL_law 406 = .ok (.invokevirtual 50, 3) := by decide +kernel
theorem dL_law_409 : decode cL_law 409 = .ok (.aload_n 2, 1) := by decide +kernel
theorem dL_law_410 : decode cL_law 410 = .ok (.aload_n 0, 1) := by decide +kernel
theorem dL_law_411 : decode cL_law 411 = .ok (.iload_n 3, 1) := by decide +kernel
theorem dL_law_412 : decode cL_law 412 = .ok (.iconst 1, 1) := by decide +kernel
theorem dL_law_413 : decode cL_law 413 = .ok (.iadd, 1) := by decide +kernel
theorem dL_law_414 : decode cL_law 414 = .ok (.iaload, 1) := by decide +kernel
theorem dL_law_415 : decode cL_law 415 = .ok (.aload_n 0, 1) := by decide +kernel
theorem dL_law_416 : decode cL_law 416 = .ok (.iload_n 3, 1) := by decide +kernel
theorem dL_law_417 : decode cL_law 417 = .ok (.iconst 2, 1) := by decide +kernel
theorem dL_law_418 : decode cL_law 418 = .ok (.iadd, 1) := by decide +kernel
theorem dL_law_419 : decode cL_law 419 = .ok (.iaload, 1) := by decide +kernel
theorem dL_law_420 : decode cL_law 420 = .ok (.aload_n 0, 1) := by decide +kernel
theorem dL_law_421 : decode cL_law 421 = .ok (.iload_n 3, 1) := by decide +kernel
theorem dL_law_422 : decode cL_law 422 = .ok (.iconst 3, 1) := by decide +kernel
theorem dL_law_423 : decode cL_law 423 = .ok (.iadd, 1) := by decide +kernel
theorem dL_law_424 : decode cL_law 424 = .ok (.iaload, 1) := by decide +kernel
theorem dL_law_425 : decode cL_law 425 = .ok (.invokevirtual 54, 3) := by decide +kernel
theorem dL_law_428 : decode cL_law 428 = .ok (.if_icmp .eq 324, 3) := by decide +kernel
theorem dL_law_431 : decode cL_law 431 = .ok (.iconst 0, 1) := by decide +kernel
theorem dL_law_432 : decode cL_law 432 = .ok (.ireturn, 1) := by decide +kernel
theorem dL_law_433 : decode cL_law 433 = .ok (.aload_n 1, 1) := by decide +kernel
theorem dL_law_434 : decode cL_law 434 = .ok (.aload_n 0, 1) := by decide +kernel
theorem dL_law_435 : decode cL_law 435 = .ok (.iload_n 3, 1) := by decide +kernel
theorem dL_law_436 : decode cL_law 436 = .ok (.iconst 1, 1) := by decide +kernel
theorem dL_law_437 : decode cL_law 437 = .ok (.iadd, 1) := by decide +kernel
theorem dL_law_438 : decode cL_law 438 = .ok (.iaload, 1) := by decide +kernel
theorem dL_law_439 : decode cL_law 439 = .ok (.aload_n 0, 1) := by decide +kernel
theorem dL_law_440 : decode cL_law 440 = .ok (.iload_n 3, 1) := by decide +kernel
theorem dL_law_441 : decode cL_law 441 = .ok (.iconst 2, 1) := by decide +kernel
theorem dL_law_442 : decode cL_law 442 = .ok (.iadd, 1) := by decide +kernel
theorem dL_law_443 : decode cL_law 443 = .ok (.iaload, 1) := by decide +kernel
theorem dL_law_444 : decode cL_law 444 = .ok (.aload_n 0, 1) := by decide +kernel
theorem dL_law_445 : decode cL_law 445 = .ok (.iload_n 3, 1) := by decide +kernel
theorem dL_law_446 : decode cL_law 446 = .ok (.iconst 3, 1) := by decide +kernel
theorem dL_law_447 : decode cL_law 447 = .ok (.iadd, 1) := by decide +kernel
theorem dL_law_448 : decode cL_law 448 = .ok (.iaload, 1) := by decide +kernel
theorem dL_law_449 : decode cL_law 449 = .ok (.invokevirtual 55, 3) := by decide +kernel
theorem dL_law_452 : decode cL_law 452 = .ok (.aload_n 2, 1) := by decide +kernel
theorem dL_law_453 : decode cL_law 453 = .ok (.aload_n 0, 1) := by decide +kernel
theorem dL_law_454 : decode cL_law 454 = .ok (.iload_n 3, 1) := by decide +kernel
theorem dL_law_455 : decode cL_law 455 = .ok (.iconst 1, 1) := by decide +kernel
theorem dL_law_456 : decode cL_law 456 = .ok (.iadd, 1) := by decide +kernel
theorem dL_law_457 : decode cL_law 457 = .ok (.iaload, 1) := by decide +kernel
theorem dL_law_458 : decode cL_law 458 = .ok (.aload_n 0, 1) := by decide +kernel
theorem dL_law_459 : decode cL_law 459 = .ok (.iload_n 3, 1) := by decide +kernel
theorem dL_law_460 : decode cL_law 460 = .ok (.iconst 2, 1) := by decide +kernel
theorem dL_law_461 : decode cL_law 461 = .ok (.iadd, 1) := by decide +kernel
theorem dL_law_462 : decode cL_law 462 = .ok (.iaload, 1) := by decide +kernel
theorem dL_law_463 : decode cL_law 463 = .ok (.aload_n 0, 1) := by decide +kernel
theorem dL_law_464 : decode cL_law 464 = .ok (.iload_n 3, 1) := by decide +kernel
theorem dL_law_465 : decode cL_law 465 = .ok (.iconst 3, 1) := by decide +kernel
theorem dL_law_466 : decode cL_law 466 = .ok (.iadd, 1) := by decide +kernel
theorem dL_law_467 : decode cL_law 467 = .ok (.iaload, 1) := by decide +kernel
theorem dL_law_468 : decode cL_law 468 = .ok (.invokevirtual 58, 3) := by decide +kernel
theorem dL_law_471 : decode cL_law 471 = .ok (.if_icmp .eq 281, 3) := by decide +kernel
theorem dL_law_474 : decode cL_law 474 = .ok (.iconst 0, 1) := by decide +kernel
theorem dL_law_475 : decode cL_law 475 = .ok (.ireturn, 1) := by decide +kernel
theorem dL_law_476 : decode cL_law 476 = .ok (.aload_n 1, 1) := by decide +kernel
theorem dL_law_477 : decode cL_law 477 = .ok (.aload_n 0, 1) := by decide +kernel
theorem dL_law_478 : decode cL_law 478 = .ok (.iload_n 3, 1) := by decide +kernel
theorem dL_law_479 : decode cL_law 479 = .ok (.iconst 1, 1) := by decide +kernel
theorem dL_law_480 : decode cL_law 480 = .ok (.iadd, 1) := by decide +kernel
theorem dL_law_481 : decode cL_law 481 = .ok (.iaload, 1) := by decide +kernel
theorem dL_law_482 : decode cL_law 482 = .ok (.invokevirtual 59, 3) := by decide +kernel
theorem dL_law_485 : decode cL_law 485 = .ok (.aload_n 2, 1) := by decide +kernel
theorem dL_law_486 : decode cL_law 486 = .ok (.aload_n 0, 1) := by decide +kernel
theorem dL_law_487 : decode cL_law 487 = .ok (.iload_n 3, 1) := by decide +kernel
theorem dL_law_488 : decode cL_law 488 = .ok (.iconst 1, 1) := by decide +kernel
theorem dL_law_489 : decode cL_law 489 = .ok (.iadd, 1) := by decide +kernel
theorem dL_law_490 : decode cL_law 490 = .ok (.iaload, 1) := by decide +kernel
theorem dL_law_491 : decode cL_law 491 = .ok (.invokevirtual 62, 3) := by decide +kernel
theorem dL_law_494 : decode cL_law 494 = .ok (.if_icmp .eq 258, 3) := by decide +kernel
theorem dL_law_497 : decode cL_law 497 = .ok (.iconst 0, 1) := by decide +kernel
theorem dL_law_498 : decode cL_law 498 = .ok (.ireturn, 1) := by decide +kernel
theorem dL_law_499 : decode cL_law 499 = .ok (.aload_n 1, 1) := by decide +kernel
theorem dL_law_500 : decode cL_law 500 = .ok (.aload_n 0, 1) := by decide +kernel
theorem dL_law_501 : decode cL_law 501 = .ok (.iload_n 3, 1) := by decide +kernel
theorem dL_law_502 : decode cL_law 502 = .ok (.iconst 1, 1) := by decide +kernel
theorem dL_law_503 : decode cL_law 503 = .ok (.iadd, 1) := by decide +kernel
theorem dL_law_504 : decode cL_law 504 = .ok (.iaload, 1) := by decide +kernel
theorem dL_law_505 : decode cL_law 505 = .ok (.aload_n 0, 1) := by decide +kernel
theorem dL_law_506 : decode cL_law 506 = .ok (.iload_n 3, 1) := by decide +kernel
theorem dL_law_507 : decode cL_law 507 = .ok (.iconst 2, 1) := by decide +kernel
theorem dL_law_508 : decode cL_law 508 = .ok (.iadd, 1) := by decide +kernel
theorem dL_law_509 : decode cL_law 509 = .ok (.iaload, 1) := by decide +kernel
theorem dL_law_510 : decode cL_law 510 = .ok (.invokevirtual 63, 3) := by decide +kernel
theorem dL_law_513 : decode cL_law 513 = .ok (.aload_n 2, 1) := by decide +kernel
theorem dL_law_514 : decode cL_law 514 = .ok (.aload_n 0, 1) := by decide +kernel
theorem dL_law_515 : decode cL_law 515 = .ok (.iload_n 3, 1) := by decide +kernel
theorem dL_law_516 : decode cL_law 516 = .ok (.iconst 1, 1) := by decide +kernel
theorem dL_law_517 : decode cL_law 517 = .ok (.iadd, 1) := by decide +kernel
theorem dL_law_518 : decode cL_law 518 = .ok (.iaload, 1) := by decide +kernel
theorem dL_law_519 : decode cL_law 519 = .ok (.aload_n 0, 1) := by decide +kernel
theorem dL_law_520 : decode cL_law 520 = .ok (.iload_n 3, 1) := by decide +kernel
theorem dL_law_521 : decode cL_law 521 = .ok (.iconst 2, 1) := by decide +kernel
theorem dL_law_522 : decode cL_law 522 = .ok (.iadd, 1) := by decide +kernel
theorem dL_law_523 : decode cL_law 523 = .ok (.iaload, 1) := by decide +kernel
theorem dL_law_524 : decode cL_law 524 = .ok (.invokevirtual 66, 3) := by decide +kernel
theorem dL_law_527 : decode cL_law 527 = .ok (.if_icmp .eq 225, 3) := by decide +kernel
theorem dL_law_530 : decode cL_law 530 = .ok (.iconst 0, 1) := by decide +kernel
theorem dL_law_531 : decode cL_law 531 = .ok (.ireturn, 1) := by decide +kernel
theorem dL_law_532 : decode cL_law 532 = .ok (.aload_n 1, 1) := by decide +kernel
theorem dL_law_533 : decode cL_law 533 = .ok (.aload_n 0, 1) := by decide +kernel
theorem dL_law_534 : decode cL_law 534 = .ok (.iload_n 3, 1) := by decide +kernel
theorem dL_law_535 : decode cL_law 535 = .ok (.iconst 1, 1) := by decide +kernel
theorem dL_law_536 : decode cL_law 536 = .ok (.iadd, 1) := by decide +kernel
theorem dL_law_537 : decode cL_law 537 = .ok (.iaload, 1) := by decide +kernel
theorem dL_law_538 : decode cL_law 538 = .ok (.invokevirtual 67, 3) := by decide +kernel
theorem dL_law_541 : decode cL_law 541 = .ok (.aload_n 2, 1) := by decide +kernel
theorem dL_law_542 : decode cL_law 542 = .ok (.aload_n 0, 1) := by decide +kernel
theorem dL_law_543 : decode cL_law 543 = .ok (.iload_n 3, 1) := by decide +kernel
theorem dL_law_544 : decode cL_law 544 = .ok (.iconst 1, 1) := by decide +kernel
theorem dL_law_545 : decode cL_law 545 = .ok (.iadd, 1) := by decide +kernel
theorem dL_law_546 : decode cL_law 546 = .ok (.iaload, 1) := by decide +kernel
theorem dL_law_547 : decode cL_law 547 = .ok (.invokevirtual 70, 3) := by decide +kernel
theorem dL_law_550 : decode cL_law 550 = .ok (.if_icmp .eq 202, 3) := by decide +kernel
theorem dL_law_553 : decode cL_law 553 = .ok (.iconst 0, 1) := by decide +kernel
theorem dL_law_554 : decode cL_law 554 = .ok (.ireturn, 1) := by decide +kernel
theorem dL_law_555 : decode cL_law 555 = .ok (.aload_n 1, 1) := by decide +kernel
theorem dL_law_556 : decode cL_law 556 = .ok (.aload_n 0, 1) := by decide +kernel
theorem dL_law_557 : decode cL_law 557 = .ok (.iload_n 3, 1) := by decide +kernel
theorem dL_law_558 : decode cL_law 558 = .ok (.iconst 1, 1) := by decide +kernel
theorem dL_law_559 : decode cL_law 559 = .ok (.iadd, 1) := by decide +kernel
theorem dL_law_560 : decode cL_law 560 = .ok (.iaload, 1) := by decide +kernel
theorem dL_law_561 : decode cL_law 561 = .ok (.aload_n 0, 1) := by decide +kernel
theorem dL_law_562 : decode cL_law 562 = .ok (.iload_n 3, 1) := by decide +kernel
theorem dL_law_563 : decode cL_law 563 = .ok (.iconst 2, 1) := by decide +kernel
theorem dL_law_564 : decode cL_law 564 = .ok (.iadd, 1) := by decide +kernel
theorem dL_law_565 : decode cL_law 565 = .ok (.iaload, 1) := by decide +kernel
theorem dL_law_566 : decode cL_law 566 = .ok (.invokevirtual 71, 3) := by decide +kernel
theorem dL_law_569 : decode cL_law 569 = .ok (.aload_n 2, 1) := by decide +kernel
theorem dL_law_570 : decode cL_law 570 = .ok (.aload_n 0, 1) := by decide +kernel
theorem dL_law_571 : decode cL_law 571 = .ok (.iload_n 3, 1) := by decide +kernel
theorem dL_law_572 : decode cL_law 572 = .ok (.iconst 1, 1) := by decide +kernel
theorem dL_law_573 : decode cL_law 573 = .ok (.iadd, 1) := by decide +kernel
theorem dL_law_574 : decode cL_law 574 = .ok (.iaload, 1) := by decide +kernel
theorem dL_law_575 : decode cL_law 575 = .ok (.aload_n 0, 1) := by decide +kernel
theorem dL_law_576 : decode cL_law 576 = .ok (.iload_n 3, 1) := by decide +kernel
theorem dL_law_577 : decode cL_law 577 = .ok (.iconst 2, 1) := by decide +kernel
theorem dL_law_578 : decode cL_law 578 = .ok (.iadd, 1) := by decide +kernel
theorem dL_law_579 : decode cL_law 579 = .ok (.iaload, 1) := by decide +kernel
theorem dL_law_580 : decode cL_law 580 = .ok (.invokevirtual 74, 3) := by decide +kernel
theorem dL_law_583 : decode cL_law 583 = .ok (.if_icmp .eq 169, 3) := by decide +kernel
theorem dL_law_586 : decode cL_law 586 = .ok (.iconst 0, 1) := by decide +kernel
theorem dL_law_587 : decode cL_law 587 = .ok (.ireturn, 1) := by decide +kernel
theorem dL_law_588 : decode cL_law 588 = .ok (.aload_n 1, 1) := by decide +kernel
theorem dL_law_589 : decode cL_law 589 = .ok (.aload_n 0, 1) := by decide +kernel
theorem dL_law_590 : decode cL_law 590 = .ok (.iload_n 3, 1) := by decide +kernel
theorem dL_law_591 : decode cL_law 591 = .ok (.iconst 1, 1) := by decide +kernel
theorem dL_law_592 : decode cL_law 592 = .ok (.iadd, 1) := by decide +kernel
theorem dL_law_593 : decode cL_law 593 = .ok (.iaload, 1) := by decide +kernel
theorem dL_law_594 : decode cL_law 594 = .ok (.aload_n 0, 1) := by decide +kernel
theorem dL_law_595 : decode cL_law 595 = .ok (.iload_n 3, 1) := by decide +kernel
theorem dL_law_596 : decode cL_law 596 = .ok (.iconst 2, 1) := by decide +kernel
theorem dL_law_597 : decode cL_law 597 = .ok (.iadd, 1) := by decide +kernel
theorem dL_law_598 : decode cL_law 598 = .ok (.iaload, 1) := by decide +kernel
theorem dL_law_599 : decode cL_law 599 = .ok (.invokevirtual 75, 3) := by decide +kernel
theorem dL_law_602 : decode cL_law 602 = .ok (.aload_n 2, 1) := by decide +kernel
theorem dL_law_603 : decode cL_law 603 = .ok (.aload_n 0, 1) := by decide +kernel
theorem dL_law_604 : decode cL_law 604 = .ok (.iload_n 3, 1) := by decide +kernel
theorem dL_law_605 : decode cL_law 605 = .ok (.iconst 1, 1) := by decide +kernel
theorem dL_law_606 : decode cL_law 606 = .ok (.iadd, 1) := by decide +kernel
theorem dL_law_607 : decode cL_law 607 = .ok (.iaload, 1) := by decide +kernel
theorem dL_law_608 : decode cL_law 608 = .ok (.aload_n 0, 1) := by decide +kernel
theorem dL_law_609 : decode cL_law 609 = .ok (.iload_n 3, 1) := by decide +kernel
theorem dL_law_610 : decode cL_law 610 = .ok (.iconst 2, 1) := by decide +kernel
theorem dL_law_611 : decode cL_law 611 = .ok (.iadd, 1) := by decide +kernel
theorem dL_law_612 : decode cL_law 612 = .ok (.iaload, 1) := by decide +kernel
theorem dL_law_613 : decode cL_law 613 = .ok (.invokevirtual 78, 3) := by decide +kernel
theorem dL_law_616 : decode cL_law 616 = .ok (.if_icmp .eq 136, 3) := by decide +kernel
theorem dL_law_619 : decode cL_law 619 = .ok (.iconst 0, 1) := by decide +kernel
theorem dL_law_620 : decode cL_law 620 = .ok (.ireturn, 1) := by decide +kernel
theorem dL_law_621 : decode cL_law 621 = .ok (.aload_n 1, 1) := by decide +kernel
theorem dL_law_622 : decode cL_law 622 = .ok (.aload_n 0, 1) := by decide +kernel
theorem dL_law_623 : decode cL_law 623 = .ok (.iload_n 3, 1) := by decide +kernel
theorem dL_law_624 : decode cL_law 624 = .ok (.iconst 1, 1) := by decide +kernel
theorem dL_law_625 : decode cL_law 625 = .ok (.iadd, 1) := by decide +kernel
theorem dL_law_626 : decode cL_law 626 = .ok (.iaload, 1) := by decide +kernel
theorem dL_law_627 : decode cL_law 627 = .ok (.invokevirtual 79, 3) := by decide +kernel
theorem dL_law_630 : decode cL_law 630 = .ok (.aload_n 2, 1) := by decide +kernel
theorem dL_law_631 : decode cL_law 631 = .ok (.aload_n 0, 1) := by decide +kernel
theorem dL_law_632 : decode cL_law 632 = .ok (.iload_n 3, 1) := by decide +kernel
theorem dL_law_633 : decode cL_law 633 = .ok (.iconst 1, 1) := by decide +kernel
theorem dL_law_634 : decode cL_law 634 = .ok (.iadd, 1) := by decide +kernel
theorem dL_law_635 : decode cL_law 635 = .ok (.iaload, 1) := by decide +kernel
theorem dL_law_636 : decode cL_law 636 = .ok (.invokevirtual 82, 3) := by decide +kernel
theorem dL_law_639 : decode cL_law 639 = .ok (.if_icmp .eq 113, 3) := by decide +kernel
theorem dL_law_642 : decode cL_law 642 = .ok (.iconst 0, 1) := by decide +kernel
theorem dL_law_643 : decode cL_law 643 = .ok (.ireturn, 1) := by decide +kernel
theorem dL_law_644 : decode cL_law 644 = .ok (.aload_n 1, 1) := by decide +kernel
theorem dL_law_645 : decode cL_law 645 = .ok (.invokevirtual 83, 3) := by decide +kernel
theorem dL_law_648 : decode cL_law 648 = .ok (.aload_n 2, 1) := by decide +kernel
theorem dL_law_649 : decode cL_law 649 = .ok (.invokevirtual 86, 3) := by decide +kernel
theorem dL_law_652 : decode cL_law 652 = .ok (.if_icmp .eq 100, 3) := by decide +kernel
theorem dL_law_655 : decode cL_law 655 = .ok (.iconst 0, 1) := by decide +kernel
theorem dL_law_656 : decode cL_law 656 = .ok (.ireturn, 1) := by decide +kernel
theorem dL_law_657 : decode cL_law 657 = .ok (.aload_n 1, 1) := by decide +kernel
theorem dL_law_658 : decode cL_law 658 = .ok (.aload_n 0, 1) := by decide +kernel
theorem dL_law_659 : decode cL_law 659 = .ok (.iload_n 3, 1) := by decide +kernel
theorem dL_law_660 : decode cL_law 660 = .ok (.iconst 1, 1) := by decide +kernel
theorem dL_law_661 : decode cL_law 661 = .ok (.iadd, 1) := by decide +kernel
theorem dL_law_662 : decode cL_law 662 = .ok (.iaload, 1) := by decide +kernel
theorem dL_law_663 : decode cL_law 663 = .ok (.aload_n 0, 1) := by decide +kernel
theorem dL_law_664 : decode cL_law 664 = .ok (.iload_n 3, 1) := by decide +kernel
theorem dL_law_665 : decode cL_law 665 = .ok (.iconst 2, 1) := by decide +kernel
theorem dL_law_666 : decode cL_law 666 = .ok (.iadd, 1) := by decide +kernel
theorem dL_law_667 : decode cL_law 667 = .ok (.iaload, 1) := by decide +kernel
theorem dL_law_668 : decode cL_law 668 = .ok (.invokevirtual 87, 3) := by decide +kernel
theorem dL_law_671 : decode cL_law 671 = .ok (.aload_n 2, 1) := by decide +kernel
theorem dL_law_672 : decode cL_law 672 = .ok (.aload_n 0, 1) := by decide +kernel
theorem dL_law_673 : decode cL_law 673 = .ok (.iload_n 3, 1) := by decide +kernel
theorem dL_law_674 : decode cL_law 674 = .ok (.iconst 1, 1) := by decide +kernel
theorem dL_law_675 : decode cL_law 675 = .ok (.iadd, 1) := by decide +kernel
theorem dL_law_676 : decode cL_law 676 = .ok (.iaload, 1) := by decide +kernel
theorem dL_law_677 : decode cL_law 677 = .ok (.aload_n 0, 1) := by decide +kernel
theorem dL_law_678 : decode cL_law 678 = .ok (.iload_n 3, 1) := by decide +kernel
theorem dL_law_679 : decode cL_law 679 = .ok (.iconst 2, 1) := by decide +kernel
theorem dL_law_680 : decode cL_law 680 = .ok (.iadd, 1) := by decide +kernel
theorem dL_law_681 : decode cL_law 681 = .ok (.iaload, 1) := by decide +kernel
theorem dL_law_682 : decode cL_law 682 = .ok (.invokevirtual 90, 3) := by decide +kernel
theorem dL_law_685 : decode cL_law 685 = .ok (.if_icmp .eq 67, 3) := by decide +kernel
theorem dL_law_688 : decode cL_law 688 = .ok (.iconst 0, 1) := by decide +kernel
theorem dL_law_689 : decode cL_law 689 = .ok (.ireturn, 1) := by decide +kernel
theorem dL_law_690 : decode cL_law 690 = .ok (.aload_n 1, 1) := by decide +kernel
theorem dL_law_691 : decode cL_law 691 = .ok (.invokevirtual 91, 3) := by decide +kernel
theorem dL_law_694 : decode cL_law 694 = .ok (.aload_n 2, 1) := by decide +kernel
theorem dL_law_695 : decode cL_law 695 = .ok (.invokevirtual 94, 3) := by decide +kernel
theorem dL_law_698 : decode cL_law 698 = .ok (.if_icmp .eq 54, 3) := by decide +kernel
theorem dL_law_701 : decode cL_law 701 = .ok (.iconst 0, 1) := by decide +kernel
theorem dL_law_702 : decode cL_law 702 = .ok (.ireturn, 1) := by decide +kernel
theorem dL_law_703 : decode cL_law 703 = .ok (.aload_n 1, 1) := by decide +kernel
theorem dL_law_704 : decode cL_law 704 = .ok (.aload_n 0, 1) := by decide +kernel
theorem dL_law_705 : decode cL_law 705 = .ok (.iload_n 3, 1) := by decide +kernel
theorem dL_law_706 : decode cL_law 706 = .ok (.iconst 1, 1) := by decide +kernel
theorem dL_law_707 : decode cL_law 707 = .ok (.iadd, 1) := by decide +kernel
theorem dL_law_708 : decode cL_law 708 = .ok (.iaload, 1) := by decide +kernel
theorem dL_law_709 : decode cL_law 709 = .ok (.invokevirtual 95, 3) := by decide +kernel
theorem dL_law_712 : decode cL_law 712 = .ok (.aload_n 2, 1) := by decide +kernel
theorem dL_law_713 : decode cL_law 713 = .ok (.aload_n 0, 1) := by decide +kernel
theorem dL_law_714 : decode cL_law 714 = .ok (.iload_n 3, 1) := by decide +kernel
theorem dL_law_715 : decode cL_law 715 = .ok (.iconst 1, 1) := by decide +kernel
theorem dL_law_716 : decode cL_law 716 = .ok (.iadd, 1) := by decide +kernel
theorem dL_law_717 : decode cL_law 717 = .ok (.iaload, 1) := by decide +kernel
theorem dL_law_718 : decode cL_law 718 = .ok (.invokevirtual 98, 3) := by decide +kernel
theorem dL_law_721 : decode cL_law 721 = .ok (.if_icmp .eq 31, 3) := by decide +kernel
theorem dL_law_724 : decode cL_law 724 = .ok (.iconst 0, 1) := by decide +kernel
theorem dL_law_725 : decode cL_law 725 = .ok (.ireturn, 1) := by decide +kernel
theorem dL_law_726 : decode cL_law 726 = .ok (.aload_n 1, 1) := by decide +kernel
theorem dL_law_727 : decode cL_law 727 = .ok (.invokevirtual 99, 3) := by decide +kernel
theorem dL_law_730 : decode cL_law 730 = .ok (.aload_n 2, 1) := by decide +kernel
theorem dL_law_731 : decode cL_law 731 = .ok (.invokevirtual 102, 3) := by decide +kernel
theorem dL_law_734 : decode cL_law 734 = .ok (.if_icmp .eq 18, 3) := by decide +kernel
theorem dL_law_737 : decode cL_law 737 = .ok (.iconst 0, 1) := by decide +kernel
theorem dL_law_738 : decode cL_law 738 = .ok (.ireturn, 1) := by decide +kernel
theorem dL_law_739 : decode cL_law 739 = .ok (.aload_n 1, 1) := by decide +kernel
theorem dL_law_740 : decode cL_law 740 = .ok (.invokevirtual 103, 3) := by decide +kernel
theorem dL_law_743 : decode cL_law 743 = .ok (.aload_n 2, 1) := by decide +kernel
theorem dL_law_744 : decode cL_law 744 = .ok (.invokevirtual 106, 3) := by decide +kernel
theorem dL_law_747 : decode cL_law 747 = .ok (.if_icmp .eq 5, 3) := by decide +kernel
theorem dL_law_750 : decode cL_law 750 = .ok (.iconst 0, 1) := by decide +kernel
theorem dL_law_751 : decode cL_law 751 = .ok (.ireturn, 1) := by decide +kernel
theorem dL_law_752 : decode cL_law 752 = .ok (.iinc 3 6, 3) := by decide +kernel
theorem dL_law_755 : decode cL_law 755 = .ok (.goto (-737), 3) := by decide +kernel
theorem dL_law_758 : decode cL_law 758 = .ok (.iconst 1, 1) := by decide +kernel
theorem dL_law_759 : decode cL_law 759 = .ok (.ireturn, 1) := by decide +kernel
end
section
/-- the words of the tables that a call may hand on, all in one list -/
def gBig : List Cond := lw_tbl.filter goodWord
theorem gBig_good : ∀ w ∈ gBig, goodWord w = true := fun _ h => (List.mem_filter.mp h).2
theorem goodIn_big {ws : List Cond} (h : ∀ w ∈ ws, w ∈ gBig) : GoodIn gBig ws := fun w hw => ⟨h w hw, good_of_word (gBig_good w (h w hw))⟩
def gNF : List (String × Nat × String × String × String × String) := [(RX2, 20, "TornPages$Desk", "scraps", "LTornPages$Scraps;", "TornPages"), (RX8, 73, "TornPages$Desk", "scraps", "LTornPages$Scraps;", "TornPages"), (RX2, 35, "TornPages$Desk", "page", "LTornPages$Page;", "TornPages"), (RX8, 59, "TornPages$Desk", "page", "LTornPages$Page;", "TornPages")]
def gNM : List (String × Nat × MethodName × String) := [(RX8, 9, yX0_init, "TornPages"), (RX0, 11, yX6_init, "TornPages"), (RX3, 17, yX0_init, "TornPages"), (RX8, 28, yX2_init, "TornPages"), (RX8, 35, yX7_init, "TornPages"), (RX7, 22, yX1_init, "TornPages"), (RX8, 42, yX1_init, "TornPages")]
theorem u_fl_RX5_15 : Cond.fieldLink RX5 15 "TornPages$Row" "numbers" "[I" ∈ gBig := List.mem_filter.mpr ⟨List.mem_append_right _ (List.mem_append_left _ (List.mem_of_getElem? (i := 43) rfl)), rfl⟩
theorem u_ml_RX5_21 : Cond.methodLink RX5 21 yJ7_fill_53178 ∈ gBig := List.mem_filter.mpr ⟨List.mem_append_right _ (List.mem_append_left _ (List.mem_of_getElem? (i := 77) rfl)), rfl⟩
theorem u_st_yJ7_fill_53178 : Cond.static yJ7_fill_53178 ∈ gBig := List.mem_filter.mpr ⟨List.mem_append_right _ (List.mem_append_left _ (List.mem_of_getElem? (i := 78) rfl)), rfl⟩
theorem u_in_RJ7 : Cond.initialized RJ7 ∈ gBig := List.mem_filter.mpr ⟨List.mem_append_right _ (List.mem_append_left _ (List.mem_of_getElem? (i := 7) rfl)), rfl⟩
theorem u_co_yJ7_fill_53178 : Cond.code yJ7_fill_53178 cJ7_fill_53178 4 none ∈ gBig := List.mem_filter.mpr ⟨List.mem_append_right _ (List.mem_append_left _ (List.mem_of_getElem? (i := 79) rfl)), rfl⟩
theorem u_fl_RX4_30 : Cond.fieldLink RX4 30 "TornPages$Page" "width" "I" ∈ gBig := List.mem_filter.mpr ⟨List.mem_append_right _ (List.mem_append_left _ (List.mem_of_getElem? (i := 83) rfl)), rfl⟩
theorem u_fl_RX4_34 : Cond.fieldLink RX4 34 "TornPages$Page" "height" "I" ∈ gBig := List.mem_filter.mpr ⟨List.mem_append_right _ (List.mem_append_left _ (List.mem_of_getElem? (i := 84) rfl)), rfl⟩
theorem u_fl_RX4_14 : Cond.fieldLink RX4 14 "TornPages$Page" "places" "LTornPages$Row;" ∈ gBig := List.mem_filter.mpr ⟨List.mem_append_right _ (List.mem_append_left _ (List.mem_of_getElem? (i := 80) rfl)), rfl⟩
theorem u_ml_RX4_41 : Cond.methodLink RX4 41 yX5_setAll ∈ gBig := List.mem_filter.mpr ⟨List.mem_append_right _ (List.mem_append_left _ (List.mem_of_getElem? (i := 73) rfl)), rfl⟩
theorem u_im_yX5_setAll : Cond.instanceMethod yX5_setAll ∈ gBig := List.mem_filter.mpr ⟨List.mem_append_right _ (List.mem_append_left _ (List.mem_of_getElem? (i := 74) rfl)), rfl⟩
theorem u_se_yX5_setAll : Cond.selects RX5 yX5_setAll yX5_setAll ∈ gBig := List.mem_filter.mpr ⟨List.mem_append_right _ (List.mem_append_left _ (List.mem_of_getElem? (i := 75) rfl)), rfl⟩
theorem u_in_RX5 : Cond.initialized RX5 ∈ gBig := List.mem_filter.mpr ⟨List.mem_append_right _ (List.mem_append_left _ (List.mem_of_getElem? (i := 4) rfl)), rfl⟩
theorem u_co_yX5_setAll : Cond.code yX5_setAll cX5_setAll 2 none ∈ gBig := List.mem_filter.mpr ⟨List.mem_append_right _ (List.mem_append_left _ (List.mem_of_getElem? (i := 76) rfl)), rfl⟩
theorem u_fl_RX4_20 : Cond.fieldLink RX4 20 "TornPages$Page" "orientations" "LTornPages$Row;" ∈ gBig := List.mem_filter.mpr ⟨List.mem_append_right _ (List.mem_append_left _ (List.mem_of_getElem? (i := 81) rfl)), rfl⟩
theorem u_fl_RX4_23 : Cond.fieldLink RX4 23 "TornPages$Page" "lying" "LTornPages$Row;" ∈ gBig := List.mem_filter.mpr ⟨List.mem_append_right _ (List.mem_append_left _ (List.mem_of_getElem? (i := 82) rfl)), rfl⟩
theorem u_fl_RX6_26 : Cond.fieldLink RX6 26 "TornPages$Scraps" "size" "I" ∈ gBig := List.mem_filter.mpr ⟨List.mem_append_right _ (List.mem_append_left _ (List.mem_of_getElem? (i := 51) rfl)), rfl⟩
theorem u_ml_RX4_37 : Cond.methodLink RX4 37 yX5_get ∈ gBig := List.mem_filter.mpr ⟨List.mem_append_right _ (List.mem_append_left _ (List.mem_of_getElem? (i := 223) rfl)), rfl⟩
theorem u_im_yX5_get : Cond.instanceMethod yX5_get ∈ gBig := List.mem_filter.mpr ⟨List.mem_append_right _ (List.mem_append_left _ (List.mem_of_getElem? (i := 224) rfl)), rfl⟩
theorem u_se_yX5_get : Cond.selects RX5 yX5_get yX5_get ∈ gBig := List.mem_filter.mpr ⟨List.mem_append_right _ (List.mem_append_left _ (List.mem_of_getElem? (i := 225) rfl)), rfl⟩
theorem u_co_yX5_get : Cond.code yX5_get cX5_get 2 (some .int) ∈ gBig := List.mem_filter.mpr ⟨List.mem_append_right _ (List.mem_append_left _ (List.mem_of_getElem? (i := 226) rfl)), rfl⟩
theorem u_fl_RX0_12 : Cond.fieldLink RX0 12 "TornPages$Desk" "scraps" "LTornPages$Scraps;" ∈ gBig := List.mem_filter.mpr ⟨List.mem_append_right _ (List.mem_append_left _ (List.mem_of_getElem? (i := 96) rfl)), rfl⟩
theorem u_ml_RX0_37 : Cond.methodLink RX0 37 yX6_size ∈ gBig := List.mem_filter.mpr ⟨List.mem_append_right _ (List.mem_append_left _ (List.mem_of_getElem? (i := 215) rfl)), rfl⟩
theorem u_im_yX6_size : Cond.instanceMethod yX6_size ∈ gBig := List.mem_filter.mpr ⟨List.mem_append_right _ (List.mem_append_left _ (List.mem_of_getElem? (i := 216) rfl)), rfl⟩
theorem u_se_yX6_size : Cond.selects RX6 yX6_size yX6_size ∈ gBig := List.mem_filter.mpr ⟨List.mem_append_right _ (List.mem_append_left _ (List.mem_of_getElem? (i := 217) rfl)), rfl⟩
theorem u_in_RX6 : Cond.initialized RX6 ∈ gBig := List.mem_filter.mpr ⟨List.mem_append_right _ (List.mem_append_left _ (List.mem_of_getElem? (i := 3) rfl)), rfl⟩
theorem u_co_yX6_size : Cond.code yX6_size cX6_size 1 (some .int) ∈ gBig := List.mem_filter.mpr ⟨List.mem_append_right _ (List.mem_append_left _ (List.mem_of_getElem? (i := 218) rfl)), rfl⟩
theorem u_fl_RX0_21 : Cond.fieldLink RX0 21 "TornPages$Desk" "page" "LTornPages$Page;" ∈ gBig := List.mem_filter.mpr ⟨List.mem_append_right _ (List.mem_append_left _ (List.mem_of_getElem? (i := 99) rfl)), rfl⟩
theorem u_ml_RX0_41 : Cond.methodLink RX0 41 yX4_lies ∈ gBig := List.mem_filter.mpr ⟨List.mem_append_right _ (List.mem_append_left _ (List.mem_of_getElem? (i := 219) rfl)), rfl⟩
theorem u_im_yX4_lies : Cond.instanceMethod yX4_lies ∈ gBig := List.mem_filter.mpr ⟨List.mem_append_right _ (List.mem_append_left _ (List.mem_of_getElem? (i := 220) rfl)), rfl⟩
theorem u_se_yX4_lies : Cond.selects RX4 yX4_lies yX4_lies ∈ gBig := List.mem_filter.mpr ⟨List.mem_append_right _ (List.mem_append_left _ (List.mem_of_getElem? (i := 221) rfl)), rfl⟩
theorem u_in_RX4 : Cond.initialized RX4 ∈ gBig := List.mem_filter.mpr ⟨List.mem_append_right _ (List.mem_append_left _ (List.mem_of_getElem? (i := 6) rfl)), rfl⟩
theorem u_co_yX4_lies : Cond.code yX4_lies cX4_lies 2 (some .boolean) ∈ gBig := List.mem_filter.mpr ⟨List.mem_append_right _ (List.mem_append_left _ (List.mem_of_getElem? (i := 222) rfl)), rfl⟩
theorem u_fl_RX3_22 : Cond.fieldLink RX3 22 "TornPages$History" "oldest" "I" ∈ gBig := List.mem_filter.mpr ⟨List.mem_append_right _ (List.mem_append_left _ (List.mem_of_getElem? (i := 117) rfl)), rfl⟩
theorem u_fl_RX3_11 : Cond.fieldLink RX3 11 "TornPages$History" "states" "[LTornPages$Desk;" ∈ gBig := List.mem_filter.mpr ⟨List.mem_append_right _ (List.mem_append_left _ (List.mem_of_getElem? (i := 116) rfl)), rfl⟩
theorem u_ml_RX5_27 : Cond.methodLink RX5 27 Lib.Math.min.name ∈ gBig := List.mem_filter.mpr ⟨List.mem_append_right _ (List.mem_append_right _ (List.mem_append_left _ (List.mem_of_getElem? (i := 7) rfl))), rfl⟩
theorem u_st_Lib_Math_min_name : Cond.static Lib.Math.min.name ∈ gBig := List.mem_filter.mpr ⟨List.mem_append_right _ (List.mem_append_right _ (List.mem_append_left _ (List.mem_of_getElem? (i := 8) rfl))), rfl⟩
theorem u_in_java_lang_Math : Cond.initialized "java/lang/Math" ∈ gBig := List.mem_filter.mpr ⟨List.mem_append_right _ (List.mem_append_left _ (List.mem_of_getElem? (i := 5) rfl)), rfl⟩
theorem u_co_Lib_Math_min_name : Cond.code Lib.Math.min.name Lib.Math.min.code 2 (some .int) ∈ gBig := List.mem_filter.mpr ⟨List.mem_append_right _ (List.mem_append_right _ (List.mem_append_left _ (List.mem_of_getElem? (i := 9) rfl))), rfl⟩
theorem u_ml_RX5_30 : Cond.methodLink RX5 30 arraycopyName ∈ gBig := List.mem_filter.mpr ⟨List.mem_append_right _ (List.mem_append_right _ (List.mem_append_left _ (List.mem_of_getElem? (i := 10) rfl))), rfl⟩
theorem u_na_arraycopyName : Cond.native arraycopyName ∈ gBig := List.mem_filter.mpr ⟨List.mem_append_right _ (List.mem_append_right _ (List.mem_append_left _ (List.mem_of_getElem? (i := 12) rfl))), rfl⟩
theorem u_st_arraycopyName : Cond.static arraycopyName ∈ gBig := List.mem_filter.mpr ⟨List.mem_append_right _ (List.mem_append_right _ (List.mem_append_left _ (List.mem_of_getElem? (i := 11) rfl))), rfl⟩
theorem u_in_java_lang_System : Cond.initialized "java/lang/System" ∈ gBig := List.mem_filter.mpr ⟨List.mem_append_right _ (List.mem_append_left _ (List.mem_of_getElem? (i := 13) rfl)), rfl⟩
theorem u_fl_RX6_14 : Cond.fieldLink RX6 14 "TornPages$Scraps" "kinds" "LTornPages$Row;" ∈ gBig := List.mem_filter.mpr ⟨List.mem_append_right _ (List.mem_append_left _ (List.mem_of_getElem? (i := 48) rfl)), rfl⟩
theorem u_ml_RX6_54 : Cond.methodLink RX6 54 yX5_copy ∈ gBig := List.mem_filter.mpr ⟨List.mem_append_right _ (List.mem_append_right _ (List.mem_append_left _ (List.mem_of_getElem? (i := 3) rfl))), rfl⟩
theorem u_im_yX5_copy : Cond.instanceMethod yX5_copy ∈ gBig := List.mem_filter.mpr ⟨List.mem_append_right _ (List.mem_append_right _ (List.mem_append_left _ (List.mem_of_getElem? (i := 4) rfl))), rfl⟩
theorem u_se_yX5_copy : Cond.selects RX5 yX5_copy yX5_copy ∈ gBig := List.mem_filter.mpr ⟨List.mem_append_right _ (List.mem_append_right _ (List.mem_append_left _ (List.mem_of_getElem? (i := 5) rfl))), rfl⟩
theorem u_co_yX5_copy : Cond.code yX5_copy cX5_copy 3 none ∈ gBig := List.mem_filter.mpr ⟨List.mem_append_right _ (List.mem_append_right _ (List.mem_append_left _ (List.mem_of_getElem? (i := 6) rfl))), rfl⟩
theorem u_fl_RX6_20 : Cond.fieldLink RX6 20 "TornPages$Scraps" "profiles" "LTornPages$Row;" ∈ gBig := List.mem_filter.mpr ⟨List.mem_append_right _ (List.mem_append_left _ (List.mem_of_getElem? (i := 49) rfl)), rfl⟩
theorem u_fl_RX6_23 : Cond.fieldLink RX6 23 "TornPages$Scraps" "lines" "LTornPages$Row;" ∈ gBig := List.mem_filter.mpr ⟨List.mem_append_right _ (List.mem_append_left _ (List.mem_of_getElem? (i := 50) rfl)), rfl⟩
theorem u_ml_RX4_50 : Cond.methodLink RX4 50 yX5_copy ∈ gBig := List.mem_filter.mpr ⟨List.mem_append_right _ (List.mem_append_right _ (List.mem_append_left _ (List.mem_of_getElem? (i := 17) rfl))), rfl⟩
theorem u_ml_RX0_25 : Cond.methodLink RX0 25 yX6_copy ∈ gBig := List.mem_filter.mpr ⟨List.mem_append_right _ (List.mem_append_left _ (List.mem_of_getElem? (i := 239) rfl)), rfl⟩
theorem u_im_yX6_copy : Cond.instanceMethod yX6_copy ∈ gBig := List.mem_filter.mpr ⟨List.mem_append_right _ (List.mem_append_right _ (List.mem_append_left _ (List.mem_of_getElem? (i := 0) rfl))), rfl⟩
theorem u_se_yX6_copy : Cond.selects RX6 yX6_copy yX6_copy ∈ gBig := List.mem_filter.mpr ⟨List.mem_append_right _ (List.mem_append_right _ (List.mem_append_left _ (List.mem_of_getElem? (i := 1) rfl))), rfl⟩
theorem u_co_yX6_copy : Cond.code yX6_copy cX6_copy 2 none ∈ gBig := List.mem_filter.mpr ⟨List.mem_append_right _ (List.mem_append_right _ (List.mem_append_left _ (List.mem_of_getElem? (i := 2) rfl))), rfl⟩
theorem u_ml_RX0_29 : Cond.methodLink RX0 29 yX4_copy ∈ gBig := List.mem_filter.mpr ⟨List.mem_append_right _ (List.mem_append_right _ (List.mem_append_left _ (List.mem_of_getElem? (i := 13) rfl))), rfl⟩
theorem u_im_yX4_copy : Cond.instanceMethod yX4_copy ∈ gBig := List.mem_filter.mpr ⟨List.mem_append_right _ (List.mem_append_right _ (List.mem_append_left _ (List.mem_of_getElem? (i := 14) rfl))), rfl⟩
theorem u_se_yX4_copy : Cond.selects RX4 yX4_copy yX4_copy ∈ gBig := List.mem_filter.mpr ⟨List.mem_append_right _ (List.mem_append_right _ (List.mem_append_left _ (List.mem_of_getElem? (i := 15) rfl))), rfl⟩
theorem u_co_yX4_copy : Cond.code yX4_copy cX4_copy 2 none ∈ gBig := List.mem_filter.mpr ⟨List.mem_append_right _ (List.mem_append_right _ (List.mem_append_left _ (List.mem_of_getElem? (i := 16) rfl))), rfl⟩
theorem u_fl_RX3_18 : Cond.fieldLink RX3 18 "TornPages$History" "size" "I" ∈ gBig := List.mem_filter.mpr ⟨List.mem_append_right _ (List.mem_append_left _ (List.mem_of_getElem? (i := 118) rfl)), rfl⟩
theorem u_ml_RX3_25 : Cond.methodLink RX3 25 yX3_state ∈ gBig := List.mem_filter.mpr ⟨List.mem_append_right _ (List.mem_append_left _ (List.mem_of_getElem? (i := 231) rfl)), rfl⟩
theorem u_im_yX3_state : Cond.instanceMethod yX3_state ∈ gBig := List.mem_filter.mpr ⟨List.mem_append_right _ (List.mem_append_left _ (List.mem_of_getElem? (i := 233) rfl)), rfl⟩
theorem u_se_yX3_state : Cond.selects RX3 yX3_state yX3_state ∈ gBig := List.mem_filter.mpr ⟨(List.mem_append_left _ (List.mem_map.mpr ⟨_, List.mem_append_left _ (List.mem_of_getElem? (i := 0) rfl), rfl⟩)), rfl⟩
theorem u_in_RX3 : Cond.initialized RX3 ∈ gBig := List.mem_filter.mpr ⟨List.mem_append_right _ (List.mem_append_left _ (List.mem_of_getElem? (i := 8) rfl)), rfl⟩
theorem u_co_yX3_state : Cond.code yX3_state cX3_state 3 (some (.object "TornPages$Desk")) ∈ gBig := List.mem_filter.mpr ⟨List.mem_append_right _ (List.mem_append_left _ (List.mem_of_getElem? (i := 234) rfl)), rfl⟩
theorem u_ml_RX3_29 : Cond.methodLink RX3 29 yX0_copy ∈ gBig := List.mem_filter.mpr ⟨List.mem_append_right _ (List.mem_append_left _ (List.mem_of_getElem? (i := 235) rfl)), rfl⟩
theorem u_im_yX0_copy : Cond.instanceMethod yX0_copy ∈ gBig := List.mem_filter.mpr ⟨List.mem_append_right _ (List.mem_append_left _ (List.mem_of_getElem? (i := 236) rfl)), rfl⟩
theorem u_se_yX0_copy : Cond.selects RX0 yX0_copy yX0_copy ∈ gBig := List.mem_filter.mpr ⟨List.mem_append_right _ (List.mem_append_left _ (List.mem_of_getElem? (i := 237) rfl)), rfl⟩
theorem u_in_RX0 : Cond.initialized RX0 ∈ gBig := List.mem_filter.mpr ⟨List.mem_append_right _ (List.mem_append_left _ (List.mem_of_getElem? (i := 2) rfl)), rfl⟩
theorem u_co_yX0_copy : Cond.code yX0_copy cX0_copy 2 none ∈ gBig := List.mem_filter.mpr ⟨List.mem_append_right _ (List.mem_append_left _ (List.mem_of_getElem? (i := 238) rfl)), rfl⟩
theorem u_ml_RX8_47 : Cond.methodLink RX8 47 yX8_isWithin ∈ gBig := List.mem_filter.mpr ⟨List.mem_append_right _ (List.mem_append_left _ (List.mem_of_getElem? (i := 208) rfl)), rfl⟩
theorem u_st_yX8_isWithin : Cond.static yX8_isWithin ∈ gBig := List.mem_filter.mpr ⟨List.mem_append_right _ (List.mem_append_left _ (List.mem_of_getElem? (i := 209) rfl)), rfl⟩
theorem u_in_RX8 : Cond.initialized RX8 ∈ gBig := List.mem_filter.mpr ⟨List.mem_append_right _ (List.mem_append_left _ (List.mem_of_getElem? (i := 1) rfl)), rfl⟩
theorem u_co_yX8_isWithin : Cond.code yX8_isWithin cX8_isWithin 3 (some .boolean) ∈ gBig := List.mem_filter.mpr ⟨List.mem_append_right _ (List.mem_append_left _ (List.mem_of_getElem? (i := 210) rfl)), rfl⟩
theorem u_fl_RX8_10 : Cond.fieldLink RX8 10 "TornPages" "desk" "LTornPages$Desk;" ∈ gBig := List.mem_filter.mpr ⟨List.mem_append_right _ (List.mem_append_left _ (List.mem_of_getElem? (i := 185) rfl)), rfl⟩
theorem u_ml_RX8_51 : Cond.methodLink RX8 51 yX0_countLying ∈ gBig := List.mem_filter.mpr ⟨List.mem_append_right _ (List.mem_append_left _ (List.mem_of_getElem? (i := 211) rfl)), rfl⟩
theorem u_im_yX0_countLying : Cond.instanceMethod yX0_countLying ∈ gBig := List.mem_filter.mpr ⟨List.mem_append_right _ (List.mem_append_left _ (List.mem_of_getElem? (i := 212) rfl)), rfl⟩
theorem u_se_yX0_countLying : Cond.selects RX0 yX0_countLying yX0_countLying ∈ gBig := List.mem_filter.mpr ⟨List.mem_append_right _ (List.mem_append_left _ (List.mem_of_getElem? (i := 213) rfl)), rfl⟩
theorem u_co_yX0_countLying : Cond.code yX0_countLying cX0_countLying 3 (some .int) ∈ gBig := List.mem_filter.mpr ⟨List.mem_append_right _ (List.mem_append_left _ (List.mem_of_getElem? (i := 214) rfl)), rfl⟩
theorem u_fl_RX8_22 : Cond.fieldLink RX8 22 "TornPages" "history" "LTornPages$History;" ∈ gBig := List.mem_filter.mpr ⟨List.mem_append_right _ (List.mem_append_left _ (List.mem_of_getElem? (i := 187) rfl)), rfl⟩
theorem u_ml_RX8_55 : Cond.methodLink RX8 55 yX3_keep ∈ gBig := List.mem_filter.mpr ⟨List.mem_append_right _ (List.mem_append_left _ (List.mem_of_getElem? (i := 227) rfl)), rfl⟩
theorem u_im_yX3_keep : Cond.instanceMethod yX3_keep ∈ gBig := List.mem_filter.mpr ⟨List.mem_append_right _ (List.mem_append_left _ (List.mem_of_getElem? (i := 228) rfl)), rfl⟩
theorem u_se_yX3_keep : Cond.selects RX3 yX3_keep yX3_keep ∈ gBig := List.mem_filter.mpr ⟨List.mem_append_right _ (List.mem_append_left _ (List.mem_of_getElem? (i := 229) rfl)), rfl⟩
theorem u_co_yX3_keep : Cond.code yX3_keep cX3_keep 3 none ∈ gBig := List.mem_filter.mpr ⟨List.mem_append_right _ (List.mem_append_left _ (List.mem_of_getElem? (i := 230) rfl)), rfl⟩
theorem u_ml_RX8_63 : Cond.methodLink RX8 63 yX4_clear ∈ gBig := List.mem_filter.mpr ⟨List.mem_append_right _ (List.mem_append_right _ (List.mem_append_left _ (List.mem_of_getElem? (i := 18) rfl))), rfl⟩
theorem u_im_yX4_clear : Cond.instanceMethod yX4_clear ∈ gBig := List.mem_filter.mpr ⟨List.mem_append_right _ (List.mem_append_left _ (List.mem_of_getElem? (i := 70) rfl)), rfl⟩
theorem u_se_yX4_clear : Cond.selects RX4 yX4_clear yX4_clear ∈ gBig := List.mem_filter.mpr ⟨List.mem_append_right _ (List.mem_append_left _ (List.mem_of_getElem? (i := 71) rfl)), rfl⟩
theorem u_co_yX4_clear : Cond.code yX4_clear cX4_clear 3 none ∈ gBig := List.mem_filter.mpr ⟨List.mem_append_right _ (List.mem_append_left _ (List.mem_of_getElem? (i := 72) rfl)), rfl⟩
theorem u_fl_RX1_14 : Cond.fieldLink RX1 14 "TornPages$Draft" "profiles" "LTornPages$Row;" ∈ gBig := List.mem_filter.mpr ⟨List.mem_append_right _ (List.mem_append_left _ (List.mem_of_getElem? (i := 157) rfl)), rfl⟩
theorem u_ml_RX1_23 : Cond.methodLink RX1 23 yX5_set ∈ gBig := List.mem_filter.mpr ⟨List.mem_append_right _ (List.mem_append_right _ (List.mem_append_left _ (List.mem_of_getElem? (i := 31) rfl))), rfl⟩
theorem u_im_yX5_set : Cond.instanceMethod yX5_set ∈ gBig := List.mem_filter.mpr ⟨List.mem_append_right _ (List.mem_append_right _ (List.mem_append_left _ (List.mem_of_getElem? (i := 32) rfl))), rfl⟩
theorem u_se_yX5_set : Cond.selects RX5 yX5_set yX5_set ∈ gBig := List.mem_filter.mpr ⟨List.mem_append_right _ (List.mem_append_right _ (List.mem_append_left _ (List.mem_of_getElem? (i := 33) rfl))), rfl⟩
theorem u_co_yX5_set : Cond.code yX5_set cX5_set 3 none ∈ gBig := List.mem_filter.mpr ⟨List.mem_append_right _ (List.mem_append_right _ (List.mem_append_left _ (List.mem_of_getElem? (i := 34) rfl))), rfl⟩
theorem u_fl_RX1_20 : Cond.fieldLink RX1 20 "TornPages$Draft" "lines" "LTornPages$Row;" ∈ gBig := List.mem_filter.mpr ⟨List.mem_append_right _ (List.mem_append_left _ (List.mem_of_getElem? (i := 158) rfl)), rfl⟩
theorem u_fl_RX1_27 : Cond.fieldLink RX1 27 "TornPages$Draft" "kind" "I" ∈ gBig := List.mem_filter.mpr ⟨List.mem_append_right _ (List.mem_append_left _ (List.mem_of_getElem? (i := 159) rfl)), rfl⟩
theorem u_ml_RX1_46 : Cond.methodLink RX1 46 yX1_unturned ∈ gBig := List.mem_filter.mpr ⟨List.mem_append_right _ (List.mem_append_right _ (List.mem_append_left _ (List.mem_of_getElem? (i := 59) rfl))), rfl⟩
theorem u_st_yX1_unturned : Cond.static yX1_unturned ∈ gBig := List.mem_filter.mpr ⟨List.mem_append_right _ (List.mem_append_right _ (List.mem_append_left _ (List.mem_of_getElem? (i := 60) rfl))), rfl⟩
theorem u_in_RX1 : Cond.initialized RX1 ∈ gBig := List.mem_filter.mpr ⟨List.mem_append_right _ (List.mem_append_left _ (List.mem_of_getElem? (i := 11) rfl)), rfl⟩
theorem u_co_yX1_unturned : Cond.code yX1_unturned cX1_unturned 2 (some .int) ∈ gBig := List.mem_filter.mpr ⟨List.mem_append_right _ (List.mem_append_right _ (List.mem_append_left _ (List.mem_of_getElem? (i := 61) rfl))), rfl⟩
theorem u_ml_RX1_49 : Cond.methodLink RX1 49 yX1_isToldClockwise ∈ gBig := List.mem_filter.mpr ⟨List.mem_append_right _ (List.mem_append_right _ (List.mem_append_left _ (List.mem_of_getElem? (i := 66) rfl))), rfl⟩
theorem u_st_yX1_isToldClockwise : Cond.static yX1_isToldClockwise ∈ gBig := List.mem_filter.mpr ⟨List.mem_append_right _ (List.mem_append_right _ (List.mem_append_left _ (List.mem_of_getElem? (i := 67) rfl))), rfl⟩
theorem u_co_yX1_isToldClockwise : Cond.code yX1_isToldClockwise cX1_isToldClockwise 1 (some .boolean) ∈ gBig := List.mem_filter.mpr ⟨List.mem_append_right _ (List.mem_append_right _ (List.mem_append_left _ (List.mem_of_getElem? (i := 68) rfl))), rfl⟩
theorem u_ml_RX1_31 : Cond.methodLink RX1 31 yX1_origin ∈ gBig := List.mem_filter.mpr ⟨List.mem_append_right _ (List.mem_append_right _ (List.mem_append_left _ (List.mem_of_getElem? (i := 56) rfl))), rfl⟩
theorem u_st_yX1_origin : Cond.static yX1_origin ∈ gBig := List.mem_filter.mpr ⟨List.mem_append_right _ (List.mem_append_right _ (List.mem_append_left _ (List.mem_of_getElem? (i := 57) rfl))), rfl⟩
theorem u_co_yX1_origin : Cond.code yX1_origin cX1_origin 3 (some .int) ∈ gBig := List.mem_filter.mpr ⟨List.mem_append_right _ (List.mem_append_right _ (List.mem_append_left _ (List.mem_of_getElem? (i := 58) rfl))), rfl⟩
theorem u_ml_RX1_35 : Cond.methodLink RX1 35 yX5_get ∈ gBig := List.mem_filter.mpr ⟨List.mem_append_right _ (List.mem_append_right _ (List.mem_append_left _ (List.mem_of_getElem? (i := 62) rfl))), rfl⟩
theorem u_ml_RX1_39 : Cond.methodLink RX1 39 yX1_isReversed ∈ gBig := List.mem_filter.mpr ⟨List.mem_append_right _ (List.mem_append_right _ (List.mem_append_left _ (List.mem_of_getElem? (i := 63) rfl))), rfl⟩
theorem u_st_yX1_isReversed : Cond.static yX1_isReversed ∈ gBig := List.mem_filter.mpr ⟨List.mem_append_right _ (List.mem_append_right _ (List.mem_append_left _ (List.mem_of_getElem? (i := 64) rfl))), rfl⟩
theorem u_co_yX1_isReversed : Cond.code yX1_isReversed cX1_isReversed 5 (some .boolean) ∈ gBig := List.mem_filter.mpr ⟨List.mem_append_right _ (List.mem_append_right _ (List.mem_append_left _ (List.mem_of_getElem? (i := 65) rfl))), rfl⟩
theorem u_ml_RX1_43 : Cond.methodLink RX1 43 yX1_reverse ∈ gBig := List.mem_filter.mpr ⟨List.mem_append_right _ (List.mem_append_right _ (List.mem_append_left _ (List.mem_of_getElem? (i := 69) rfl))), rfl⟩
theorem u_st_yX1_reverse : Cond.static yX1_reverse ∈ gBig := List.mem_filter.mpr ⟨List.mem_append_right _ (List.mem_append_right _ (List.mem_append_left _ (List.mem_of_getElem? (i := 70) rfl))), rfl⟩
theorem u_co_yX1_reverse : Cond.code yX1_reverse cX1_reverse 1 (some .int) ∈ gBig := List.mem_filter.mpr ⟨List.mem_append_right _ (List.mem_append_right _ (List.mem_append_left _ (List.mem_of_getElem? (i := 71) rfl))), rfl⟩
theorem u_ml_RX6_34 : Cond.methodLink RX6 34 yX1_kind ∈ gBig := List.mem_filter.mpr ⟨List.mem_append_right _ (List.mem_append_right _ (List.mem_append_left _ (List.mem_of_getElem? (i := 47) rfl))), rfl⟩
theorem u_im_yX1_kind : Cond.instanceMethod yX1_kind ∈ gBig := List.mem_filter.mpr ⟨List.mem_append_right _ (List.mem_append_right _ (List.mem_append_left _ (List.mem_of_getElem? (i := 48) rfl))), rfl⟩
theorem u_se_yX1_kind : Cond.selects RX1 yX1_kind yX1_kind ∈ gBig := List.mem_filter.mpr ⟨List.mem_append_right _ (List.mem_append_right _ (List.mem_append_left _ (List.mem_of_getElem? (i := 49) rfl))), rfl⟩
theorem u_co_yX1_kind : Cond.code yX1_kind cX1_kind 1 (some .int) ∈ gBig := List.mem_filter.mpr ⟨List.mem_append_right _ (List.mem_append_right _ (List.mem_append_left _ (List.mem_of_getElem? (i := 50) rfl))), rfl⟩
theorem u_ml_RX6_40 : Cond.methodLink RX6 40 yX5_set ∈ gBig := List.mem_filter.mpr ⟨List.mem_append_right _ (List.mem_append_right _ (List.mem_append_left _ (List.mem_of_getElem? (i := 51) rfl))), rfl⟩
theorem u_ml_RX6_44 : Cond.methodLink RX6 44 yX1_profile ∈ gBig := List.mem_filter.mpr ⟨List.mem_append_right _ (List.mem_append_right _ (List.mem_append_left _ (List.mem_of_getElem? (i := 52) rfl))), rfl⟩
theorem u_im_yX1_profile : Cond.instanceMethod yX1_profile ∈ gBig := List.mem_filter.mpr ⟨List.mem_append_right _ (List.mem_append_right _ (List.mem_append_left _ (List.mem_of_getElem? (i := 53) rfl))), rfl⟩
theorem u_se_yX1_profile : Cond.selects RX1 yX1_profile yX1_profile ∈ gBig := List.mem_filter.mpr ⟨List.mem_append_right _ (List.mem_append_right _ (List.mem_append_left _ (List.mem_of_getElem? (i := 54) rfl))), rfl⟩
theorem u_co_yX1_profile : Cond.code yX1_profile cX1_profile 4 (some .int) ∈ gBig := List.mem_filter.mpr ⟨List.mem_append_right _ (List.mem_append_right _ (List.mem_append_left _ (List.mem_of_getElem? (i := 55) rfl))), rfl⟩
theorem u_ml_RX6_48 : Cond.methodLink RX6 48 yX1_line ∈ gBig := List.mem_filter.mpr ⟨List.mem_append_right _ (List.mem_append_right _ (List.mem_append_left _ (List.mem_of_getElem? (i := 72) rfl))), rfl⟩
theorem u_im_yX1_line : Cond.instanceMethod yX1_line ∈ gBig := List.mem_filter.mpr ⟨List.mem_append_right _ (List.mem_append_right _ (List.mem_append_left _ (List.mem_of_getElem? (i := 73) rfl))), rfl⟩
theorem u_se_yX1_line : Cond.selects RX1 yX1_line yX1_line ∈ gBig := List.mem_filter.mpr ⟨List.mem_append_right _ (List.mem_append_right _ (List.mem_append_left _ (List.mem_of_getElem? (i := 74) rfl))), rfl⟩
theorem u_co_yX1_line : Cond.code yX1_line cX1_line 4 (some .int) ∈ gBig := List.mem_filter.mpr ⟨List.mem_append_right _ (List.mem_append_right _ (List.mem_append_left _ (List.mem_of_getElem? (i := 75) rfl))), rfl⟩
theorem u_ml_RX8_224 : Cond.methodLink RX8 224 yX6_append ∈ gBig := List.mem_filter.mpr ⟨List.mem_append_right _ (List.mem_append_right _ (List.mem_append_left _ (List.mem_of_getElem? (i := 43) rfl))), rfl⟩
theorem u_im_yX6_append : Cond.instanceMethod yX6_append ∈ gBig := List.mem_filter.mpr ⟨List.mem_append_right _ (List.mem_append_right _ (List.mem_append_left _ (List.mem_of_getElem? (i := 44) rfl))), rfl⟩
theorem u_se_yX6_append : Cond.selects RX6 yX6_append yX6_append ∈ gBig := List.mem_filter.mpr ⟨List.mem_append_right _ (List.mem_append_right _ (List.mem_append_left _ (List.mem_of_getElem? (i := 45) rfl))), rfl⟩
theorem u_co_yX6_append : Cond.code yX6_append cX6_append 5 none ∈ gBig := List.mem_filter.mpr ⟨List.mem_append_right _ (List.mem_append_right _ (List.mem_append_left _ (List.mem_of_getElem? (i := 46) rfl))), rfl⟩
theorem u_ml_RX8_77 : Cond.methodLink RX8 77 yX6_size ∈ gBig := List.mem_filter.mpr ⟨List.mem_append_right _ (List.mem_append_right _ (List.mem_append_left _ (List.mem_of_getElem? (i := 26) rfl))), rfl⟩
theorem u_ml_RX8_69 : Cond.methodLink RX8 69 yX8_isProfile ∈ gBig := List.mem_filter.mpr ⟨List.mem_append_right _ (List.mem_append_right _ (List.mem_append_left _ (List.mem_of_getElem? (i := 23) rfl))), rfl⟩
theorem u_st_yX8_isProfile : Cond.static yX8_isProfile ∈ gBig := List.mem_filter.mpr ⟨List.mem_append_right _ (List.mem_append_right _ (List.mem_append_left _ (List.mem_of_getElem? (i := 24) rfl))), rfl⟩
theorem u_co_yX8_isProfile : Cond.code yX8_isProfile cX8_isProfile 1 (some .boolean) ∈ gBig := List.mem_filter.mpr ⟨List.mem_append_right _ (List.mem_append_right _ (List.mem_append_left _ (List.mem_of_getElem? (i := 25) rfl))), rfl⟩
theorem u_fl_RX8_43 : Cond.fieldLink RX8 43 "TornPages" "draft" "LTornPages$Draft;" ∈ gBig := List.mem_filter.mpr ⟨List.mem_append_right _ (List.mem_append_left _ (List.mem_of_getElem? (i := 190) rfl)), rfl⟩
theorem u_ml_RX8_82 : Cond.methodLink RX8 82 yX1_setEdge ∈ gBig := List.mem_filter.mpr ⟨List.mem_append_right _ (List.mem_append_right _ (List.mem_append_left _ (List.mem_of_getElem? (i := 27) rfl))), rfl⟩
theorem u_im_yX1_setEdge : Cond.instanceMethod yX1_setEdge ∈ gBig := List.mem_filter.mpr ⟨List.mem_append_right _ (List.mem_append_right _ (List.mem_append_left _ (List.mem_of_getElem? (i := 28) rfl))), rfl⟩
theorem u_se_yX1_setEdge : Cond.selects RX1 yX1_setEdge yX1_setEdge ∈ gBig := List.mem_filter.mpr ⟨List.mem_append_right _ (List.mem_append_right _ (List.mem_append_left _ (List.mem_of_getElem? (i := 29) rfl))), rfl⟩
theorem u_co_yX1_setEdge : Cond.code yX1_setEdge cX1_setEdge 4 none ∈ gBig := List.mem_filter.mpr ⟨List.mem_append_right _ (List.mem_append_right _ (List.mem_append_left _ (List.mem_of_getElem? (i := 30) rfl))), rfl⟩
theorem u_ml_RX8_86 : Cond.methodLink RX8 86 yX1_setKind ∈ gBig := List.mem_filter.mpr ⟨List.mem_append_right _ (List.mem_append_right _ (List.mem_append_left _ (List.mem_of_getElem? (i := 35) rfl))), rfl⟩
theorem u_im_yX1_setKind : Cond.instanceMethod yX1_setKind ∈ gBig := List.mem_filter.mpr ⟨List.mem_append_right _ (List.mem_append_right _ (List.mem_append_left _ (List.mem_of_getElem? (i := 36) rfl))), rfl⟩
theorem u_se_yX1_setKind : Cond.selects RX1 yX1_setKind yX1_setKind ∈ gBig := List.mem_filter.mpr ⟨List.mem_append_right _ (List.mem_append_right _ (List.mem_append_left _ (List.mem_of_getElem? (i := 37) rfl))), rfl⟩
theorem u_co_yX1_setKind : Cond.code yX1_setKind cX1_setKind 2 none ∈ gBig := List.mem_filter.mpr ⟨List.mem_append_right _ (List.mem_append_right _ (List.mem_append_left _ (List.mem_of_getElem? (i := 38) rfl))), rfl⟩
theorem u_ml_RX8_90 : Cond.methodLink RX8 90 yX8_append ∈ gBig := List.mem_filter.mpr ⟨List.mem_append_right _ (List.mem_append_right _ (List.mem_append_left _ (List.mem_of_getElem? (i := 39) rfl))), rfl⟩
theorem u_im_yX8_append : Cond.instanceMethod yX8_append ∈ gBig := List.mem_filter.mpr ⟨List.mem_append_right _ (List.mem_append_right _ (List.mem_append_left _ (List.mem_of_getElem? (i := 41) rfl))), rfl⟩
theorem u_se_yX8_append : Cond.selects RX8 yX8_append yX8_append ∈ gBig := List.mem_filter.mpr ⟨(List.mem_append_left _ (List.mem_map.mpr ⟨_, List.mem_append_left _ (List.mem_of_getElem? (i := 1) rfl), rfl⟩)), rfl⟩
theorem u_co_yX8_append : Cond.code yX8_append cX8_append 2 (some .int) ∈ gBig := List.mem_filter.mpr ⟨List.mem_append_right _ (List.mem_append_right _ (List.mem_append_left _ (List.mem_of_getElem? (i := 42) rfl))), rfl⟩
theorem u_fl_RX7_31 : Cond.fieldLink RX7 31 "TornPages$Text" "position" "I" ∈ gBig := List.mem_filter.mpr ⟨List.mem_append_right _ (List.mem_append_left _ (List.mem_of_getElem? (i := 170) rfl)), rfl⟩
theorem u_fl_RX7_27 : Cond.fieldLink RX7 27 "TornPages$Text" "length" "I" ∈ gBig := List.mem_filter.mpr ⟨List.mem_append_right _ (List.mem_append_left _ (List.mem_of_getElem? (i := 169) rfl)), rfl⟩
theorem u_fl_RX7_14 : Cond.fieldLink RX7 14 "TornPages$Text" "signs" "LTornPages$Row;" ∈ gBig := List.mem_filter.mpr ⟨List.mem_append_right _ (List.mem_append_left _ (List.mem_of_getElem? (i := 167) rfl)), rfl⟩
theorem u_ml_RX7_64 : Cond.methodLink RX7 64 yX5_get ∈ gBig := List.mem_filter.mpr ⟨List.mem_append_right _ (List.mem_append_right _ (List.mem_append_left _ (List.mem_of_getElem? (i := 92) rfl))), rfl⟩
theorem u_fl_RX7_34 : Cond.fieldLink RX7 34 "TornPages$Text" "sound" "Z" ∈ gBig := List.mem_filter.mpr ⟨List.mem_append_right _ (List.mem_append_left _ (List.mem_of_getElem? (i := 171) rfl)), rfl⟩
theorem u_ml_RX7_56 : Cond.methodLink RX7 56 yX7_next ∈ gBig := List.mem_filter.mpr ⟨List.mem_append_right _ (List.mem_append_right _ (List.mem_append_left _ (List.mem_of_getElem? (i := 88) rfl))), rfl⟩
theorem u_im_yX7_next : Cond.instanceMethod yX7_next ∈ gBig := List.mem_filter.mpr ⟨List.mem_append_right _ (List.mem_append_right _ (List.mem_append_left _ (List.mem_of_getElem? (i := 90) rfl))), rfl⟩
theorem u_se_yX7_next : Cond.selects RX7 yX7_next yX7_next ∈ gBig := List.mem_filter.mpr ⟨(List.mem_append_left _ (List.mem_map.mpr ⟨_, List.mem_append_left _ (List.mem_of_getElem? (i := 3) rfl), rfl⟩)), rfl⟩
theorem u_in_RX7 : Cond.initialized RX7 ∈ gBig := List.mem_filter.mpr ⟨List.mem_append_right _ (List.mem_append_left _ (List.mem_of_getElem? (i := 10) rfl)), rfl⟩
theorem u_co_yX7_next : Cond.code yX7_next cX7_next 1 (some .int) ∈ gBig := List.mem_filter.mpr ⟨List.mem_append_right _ (List.mem_append_right _ (List.mem_append_left _ (List.mem_of_getElem? (i := 91) rfl))), rfl⟩
theorem u_ml_RX7_42 : Cond.methodLink RX7 42 yX7_takeSign ∈ gBig := List.mem_filter.mpr ⟨List.mem_append_right _ (List.mem_append_right _ (List.mem_append_left _ (List.mem_of_getElem? (i := 84) rfl))), rfl⟩
theorem u_im_yX7_takeSign : Cond.instanceMethod yX7_takeSign ∈ gBig := List.mem_filter.mpr ⟨List.mem_append_right _ (List.mem_append_right _ (List.mem_append_left _ (List.mem_of_getElem? (i := 86) rfl))), rfl⟩
theorem u_se_yX7_takeSign : Cond.selects RX7 yX7_takeSign yX7_takeSign ∈ gBig := List.mem_filter.mpr ⟨(List.mem_append_left _ (List.mem_map.mpr ⟨_, List.mem_append_left _ (List.mem_of_getElem? (i := 2) rfl), rfl⟩)), rfl⟩
theorem u_co_yX7_takeSign : Cond.code yX7_takeSign cX7_takeSign 2 none ∈ gBig := List.mem_filter.mpr ⟨List.mem_append_right _ (List.mem_append_right _ (List.mem_append_left _ (List.mem_of_getElem? (i := 87) rfl))), rfl⟩
theorem u_fl_RX7_23 : Cond.fieldLink RX7 23 "TornPages$Text" "draft" "LTornPages$Draft;" ∈ gBig := List.mem_filter.mpr ⟨List.mem_append_right _ (List.mem_append_left _ (List.mem_of_getElem? (i := 168) rfl)), rfl⟩
theorem u_ml_RX7_49 : Cond.methodLink RX7 49 yX7_takeDigit ∈ gBig := List.mem_filter.mpr ⟨List.mem_append_right _ (List.mem_append_right _ (List.mem_append_left _ (List.mem_of_getElem? (i := 97) rfl))), rfl⟩
theorem u_im_yX7_takeDigit : Cond.instanceMethod yX7_takeDigit ∈ gBig := List.mem_filter.mpr ⟨List.mem_append_right _ (List.mem_append_right _ (List.mem_append_left _ (List.mem_of_getElem? (i := 99) rfl))), rfl⟩
theorem u_se_yX7_takeDigit : Cond.selects RX7 yX7_takeDigit yX7_takeDigit ∈ gBig := List.mem_filter.mpr ⟨(List.mem_append_left _ (List.mem_map.mpr ⟨_, List.mem_append_left _ (List.mem_of_getElem? (i := 5) rfl), rfl⟩)), rfl⟩
theorem u_co_yX7_takeDigit : Cond.code yX7_takeDigit cX7_takeDigit 3 (some .int) ∈ gBig := List.mem_filter.mpr ⟨List.mem_append_right _ (List.mem_append_right _ (List.mem_append_left _ (List.mem_of_getElem? (i := 100) rfl))), rfl⟩
theorem u_ml_RX7_60 : Cond.methodLink RX7 60 yX1_setEdge ∈ gBig := List.mem_filter.mpr ⟨List.mem_append_right _ (List.mem_append_right _ (List.mem_append_left _ (List.mem_of_getElem? (i := 101) rfl))), rfl⟩
theorem u_ml_RX7_53 : Cond.methodLink RX7 53 yX1_setKind ∈ gBig := List.mem_filter.mpr ⟨List.mem_append_right _ (List.mem_append_right _ (List.mem_append_left _ (List.mem_of_getElem? (i := 102) rfl))), rfl⟩
theorem u_ml_RX7_46 : Cond.methodLink RX7 46 yX7_takeEdge ∈ gBig := List.mem_filter.mpr ⟨List.mem_append_right _ (List.mem_append_right _ (List.mem_append_left _ (List.mem_of_getElem? (i := 93) rfl))), rfl⟩
theorem u_im_yX7_takeEdge : Cond.instanceMethod yX7_takeEdge ∈ gBig := List.mem_filter.mpr ⟨List.mem_append_right _ (List.mem_append_right _ (List.mem_append_left _ (List.mem_of_getElem? (i := 95) rfl))), rfl⟩
theorem u_se_yX7_takeEdge : Cond.selects RX7 yX7_takeEdge yX7_takeEdge ∈ gBig := List.mem_filter.mpr ⟨(List.mem_append_left _ (List.mem_map.mpr ⟨_, List.mem_append_left _ (List.mem_of_getElem? (i := 4) rfl), rfl⟩)), rfl⟩
theorem u_co_yX7_takeEdge : Cond.code yX7_takeEdge cX7_takeEdge 4 none ∈ gBig := List.mem_filter.mpr ⟨List.mem_append_right _ (List.mem_append_right _ (List.mem_append_left _ (List.mem_of_getElem? (i := 96) rfl))), rfl⟩
theorem u_fl_RX8_36 : Cond.fieldLink RX8 36 "TornPages" "text" "LTornPages$Text;" ∈ gBig := List.mem_filter.mpr ⟨List.mem_append_right _ (List.mem_append_left _ (List.mem_of_getElem? (i := 189) rfl)), rfl⟩
theorem u_ml_RX8_94 : Cond.methodLink RX8 94 yX7_read ∈ gBig := List.mem_filter.mpr ⟨List.mem_append_right _ (List.mem_append_right _ (List.mem_append_left _ (List.mem_of_getElem? (i := 80) rfl))), rfl⟩
theorem u_im_yX7_read : Cond.instanceMethod yX7_read ∈ gBig := List.mem_filter.mpr ⟨List.mem_append_right _ (List.mem_append_right _ (List.mem_append_left _ (List.mem_of_getElem? (i := 81) rfl))), rfl⟩
theorem u_se_yX7_read : Cond.selects RX7 yX7_read yX7_read ∈ gBig := List.mem_filter.mpr ⟨List.mem_append_right _ (List.mem_append_right _ (List.mem_append_left _ (List.mem_of_getElem? (i := 82) rfl))), rfl⟩
theorem u_co_yX7_read : Cond.code yX7_read cX7_read 2 none ∈ gBig := List.mem_filter.mpr ⟨List.mem_append_right _ (List.mem_append_right _ (List.mem_append_left _ (List.mem_of_getElem? (i := 83) rfl))), rfl⟩
theorem u_ml_RX8_97 : Cond.methodLink RX8 97 yX7_isSound ∈ gBig := List.mem_filter.mpr ⟨List.mem_append_right _ (List.mem_append_right _ (List.mem_append_left _ (List.mem_of_getElem? (i := 103) rfl))), rfl⟩
theorem u_im_yX7_isSound : Cond.instanceMethod yX7_isSound ∈ gBig := List.mem_filter.mpr ⟨List.mem_append_right _ (List.mem_append_right _ (List.mem_append_left _ (List.mem_of_getElem? (i := 104) rfl))), rfl⟩
theorem u_se_yX7_isSound : Cond.selects RX7 yX7_isSound yX7_isSound ∈ gBig := List.mem_filter.mpr ⟨List.mem_append_right _ (List.mem_append_right _ (List.mem_append_left _ (List.mem_of_getElem? (i := 105) rfl))), rfl⟩
theorem u_co_yX7_isSound : Cond.code yX7_isSound cX7_isSound 1 (some .boolean) ∈ gBig := List.mem_filter.mpr ⟨List.mem_append_right _ (List.mem_append_right _ (List.mem_append_left _ (List.mem_of_getElem? (i := 106) rfl))), rfl⟩
theorem u_ml_RX8_101 : Cond.methodLink RX8 101 yX7_draft ∈ gBig := List.mem_filter.mpr ⟨List.mem_append_right _ (List.mem_append_right _ (List.mem_append_left _ (List.mem_of_getElem? (i := 107) rfl))), rfl⟩
theorem u_im_yX7_draft : Cond.instanceMethod yX7_draft ∈ gBig := List.mem_filter.mpr ⟨List.mem_append_right _ (List.mem_append_right _ (List.mem_append_left _ (List.mem_of_getElem? (i := 108) rfl))), rfl⟩
theorem u_se_yX7_draft : Cond.selects RX7 yX7_draft yX7_draft ∈ gBig := List.mem_filter.mpr ⟨List.mem_append_right _ (List.mem_append_right _ (List.mem_append_left _ (List.mem_of_getElem? (i := 109) rfl))), rfl⟩
theorem u_co_yX7_draft : Cond.code yX7_draft cX7_draft 1 (some (.object "TornPages$Draft")) ∈ gBig := List.mem_filter.mpr ⟨List.mem_append_right _ (List.mem_append_right _ (List.mem_append_left _ (List.mem_of_getElem? (i := 110) rfl))), rfl⟩
theorem u_ml_RX6_51 : Cond.methodLink RX6 51 yX5_cut ∈ gBig := List.mem_filter.mpr ⟨List.mem_append_right _ (List.mem_append_right _ (List.mem_append_left _ (List.mem_of_getElem? (i := 127) rfl))), rfl⟩
theorem u_im_yX5_cut : Cond.instanceMethod yX5_cut ∈ gBig := List.mem_filter.mpr ⟨List.mem_append_right _ (List.mem_append_right _ (List.mem_append_left _ (List.mem_of_getElem? (i := 128) rfl))), rfl⟩
theorem u_se_yX5_cut : Cond.selects RX5 yX5_cut yX5_cut ∈ gBig := List.mem_filter.mpr ⟨List.mem_append_right _ (List.mem_append_right _ (List.mem_append_left _ (List.mem_of_getElem? (i := 129) rfl))), rfl⟩
theorem u_co_yX5_cut : Cond.code yX5_cut cX5_cut 4 none ∈ gBig := List.mem_filter.mpr ⟨List.mem_append_right _ (List.mem_append_right _ (List.mem_append_left _ (List.mem_of_getElem? (i := 130) rfl))), rfl⟩
theorem u_ml_RX4_47 : Cond.methodLink RX4 47 yX5_cut ∈ gBig := List.mem_filter.mpr ⟨List.mem_append_right _ (List.mem_append_right _ (List.mem_append_left _ (List.mem_of_getElem? (i := 135) rfl))), rfl⟩
theorem u_ml_RX4_44 : Cond.methodLink RX4 44 yX5_set ∈ gBig := List.mem_filter.mpr ⟨List.mem_append_right _ (List.mem_append_right _ (List.mem_append_left _ (List.mem_of_getElem? (i := 136) rfl))), rfl⟩
theorem u_ml_RX0_32 : Cond.methodLink RX0 32 yX6_remove ∈ gBig := List.mem_filter.mpr ⟨List.mem_append_right _ (List.mem_append_right _ (List.mem_append_left _ (List.mem_of_getElem? (i := 123) rfl))), rfl⟩
theorem u_im_yX6_remove : Cond.instanceMethod yX6_remove ∈ gBig := List.mem_filter.mpr ⟨List.mem_append_right _ (List.mem_append_right _ (List.mem_append_left _ (List.mem_of_getElem? (i := 124) rfl))), rfl⟩
theorem u_se_yX6_remove : Cond.selects RX6 yX6_remove yX6_remove ∈ gBig := List.mem_filter.mpr ⟨List.mem_append_right _ (List.mem_append_right _ (List.mem_append_left _ (List.mem_of_getElem? (i := 125) rfl))), rfl⟩
theorem u_co_yX6_remove : Cond.code yX6_remove cX6_remove 2 none ∈ gBig := List.mem_filter.mpr ⟨List.mem_append_right _ (List.mem_append_right _ (List.mem_append_left _ (List.mem_of_getElem? (i := 126) rfl))), rfl⟩
theorem u_ml_RX0_36 : Cond.methodLink RX0 36 yX4_remove ∈ gBig := List.mem_filter.mpr ⟨List.mem_append_right _ (List.mem_append_right _ (List.mem_append_left _ (List.mem_of_getElem? (i := 131) rfl))), rfl⟩
theorem u_im_yX4_remove : Cond.instanceMethod yX4_remove ∈ gBig := List.mem_filter.mpr ⟨List.mem_append_right _ (List.mem_append_right _ (List.mem_append_left _ (List.mem_of_getElem? (i := 132) rfl))), rfl⟩
theorem u_se_yX4_remove : Cond.selects RX4 yX4_remove yX4_remove ∈ gBig := List.mem_filter.mpr ⟨List.mem_append_right _ (List.mem_append_right _ (List.mem_append_left _ (List.mem_of_getElem? (i := 133) rfl))), rfl⟩
theorem u_co_yX4_remove : Cond.code yX4_remove cX4_remove 3 none ∈ gBig := List.mem_filter.mpr ⟨List.mem_append_right _ (List.mem_append_right _ (List.mem_append_left _ (List.mem_of_getElem? (i := 134) rfl))), rfl⟩
theorem u_ml_RX8_104 : Cond.methodLink RX8 104 yX8_isScrap ∈ gBig := List.mem_filter.mpr ⟨List.mem_append_right _ (List.mem_append_right _ (List.mem_append_left _ (List.mem_of_getElem? (i := 115) rfl))), rfl⟩
theorem u_im_yX8_isScrap : Cond.instanceMethod yX8_isScrap ∈ gBig := List.mem_filter.mpr ⟨List.mem_append_right _ (List.mem_append_right _ (List.mem_append_left _ (List.mem_of_getElem? (i := 117) rfl))), rfl⟩
theorem u_se_yX8_isScrap : Cond.selects RX8 yX8_isScrap yX8_isScrap ∈ gBig := List.mem_filter.mpr ⟨(List.mem_append_left _ (List.mem_map.mpr ⟨_, List.mem_append_left _ (List.mem_of_getElem? (i := 6) rfl), rfl⟩)), rfl⟩
theorem u_co_yX8_isScrap : Cond.code yX8_isScrap cX8_isScrap 2 (some .boolean) ∈ gBig := List.mem_filter.mpr ⟨List.mem_append_right _ (List.mem_append_right _ (List.mem_append_left _ (List.mem_of_getElem? (i := 118) rfl))), rfl⟩
theorem u_ml_RX8_107 : Cond.methodLink RX8 107 yX0_remove ∈ gBig := List.mem_filter.mpr ⟨List.mem_append_right _ (List.mem_append_right _ (List.mem_append_left _ (List.mem_of_getElem? (i := 119) rfl))), rfl⟩
theorem u_im_yX0_remove : Cond.instanceMethod yX0_remove ∈ gBig := List.mem_filter.mpr ⟨List.mem_append_right _ (List.mem_append_right _ (List.mem_append_left _ (List.mem_of_getElem? (i := 120) rfl))), rfl⟩
theorem u_se_yX0_remove : Cond.selects RX0 yX0_remove yX0_remove ∈ gBig := List.mem_filter.mpr ⟨List.mem_append_right _ (List.mem_append_right _ (List.mem_append_left _ (List.mem_of_getElem? (i := 121) rfl))), rfl⟩
theorem u_co_yX0_remove : Cond.code yX0_remove cX0_remove 2 none ∈ gBig := List.mem_filter.mpr ⟨List.mem_append_right _ (List.mem_append_right _ (List.mem_append_left _ (List.mem_of_getElem? (i := 122) rfl))), rfl⟩
theorem u_ml_RX6_30 : Cond.methodLink RX6 30 yX5_get ∈ gBig := List.mem_filter.mpr ⟨List.mem_append_right _ (List.mem_append_right _ (List.mem_append_left _ (List.mem_of_getElem? (i := 145) rfl))), rfl⟩
theorem u_ml_RX4_54 : Cond.methodLink RX4 54 yX4_places ∈ gBig := List.mem_filter.mpr ⟨List.mem_append_right _ (List.mem_append_right _ (List.mem_append_left _ (List.mem_of_getElem? (i := 187) rfl))), rfl⟩
theorem u_im_yX4_places : Cond.instanceMethod yX4_places ∈ gBig := List.mem_filter.mpr ⟨List.mem_append_right _ (List.mem_append_right _ (List.mem_append_left _ (List.mem_of_getElem? (i := 188) rfl))), rfl⟩
theorem u_se_yX4_places : Cond.selects RX4 yX4_places yX4_places ∈ gBig := List.mem_filter.mpr ⟨List.mem_append_right _ (List.mem_append_right _ (List.mem_append_left _ (List.mem_of_getElem? (i := 189) rfl))), rfl⟩
theorem u_co_yX4_places : Cond.code yX4_places cX4_places 1 (some .int) ∈ gBig := List.mem_filter.mpr ⟨List.mem_append_right _ (List.mem_append_right _ (List.mem_append_left _ (List.mem_of_getElem? (i := 190) rfl))), rfl⟩
theorem u_ml_RX0_45 : Cond.methodLink RX0 45 yX4_behind ∈ gBig := List.mem_filter.mpr ⟨List.mem_append_right _ (List.mem_append_right _ (List.mem_append_left _ (List.mem_of_getElem? (i := 183) rfl))), rfl⟩
theorem u_im_yX4_behind : Cond.instanceMethod yX4_behind ∈ gBig := List.mem_filter.mpr ⟨List.mem_append_right _ (List.mem_append_right _ (List.mem_append_left _ (List.mem_of_getElem? (i := 184) rfl))), rfl⟩
theorem u_se_yX4_behind : Cond.selects RX4 yX4_behind yX4_behind ∈ gBig := List.mem_filter.mpr ⟨List.mem_append_right _ (List.mem_append_right _ (List.mem_append_left _ (List.mem_of_getElem? (i := 185) rfl))), rfl⟩
theorem u_co_yX4_behind : Cond.code yX4_behind cX4_behind 4 (some .int) ∈ gBig := List.mem_filter.mpr ⟨List.mem_append_right _ (List.mem_append_right _ (List.mem_append_left _ (List.mem_of_getElem? (i := 186) rfl))), rfl⟩
theorem u_ml_RX0_49 : Cond.methodLink RX0 49 yX4_scrapAt ∈ gBig := List.mem_filter.mpr ⟨List.mem_append_right _ (List.mem_append_right _ (List.mem_append_left _ (List.mem_of_getElem? (i := 191) rfl))), rfl⟩
theorem u_im_yX4_scrapAt : Cond.instanceMethod yX4_scrapAt ∈ gBig := List.mem_filter.mpr ⟨List.mem_append_right _ (List.mem_append_right _ (List.mem_append_left _ (List.mem_of_getElem? (i := 192) rfl))), rfl⟩
theorem u_se_yX4_scrapAt : Cond.selects RX4 yX4_scrapAt yX4_scrapAt ∈ gBig := List.mem_filter.mpr ⟨List.mem_append_right _ (List.mem_append_right _ (List.mem_append_left _ (List.mem_of_getElem? (i := 193) rfl))), rfl⟩
theorem u_co_yX4_scrapAt : Cond.code yX4_scrapAt cX4_scrapAt 2 (some .int) ∈ gBig := List.mem_filter.mpr ⟨List.mem_append_right _ (List.mem_append_right _ (List.mem_append_left _ (List.mem_of_getElem? (i := 194) rfl))), rfl⟩
theorem u_ml_RX0_77 : Cond.methodLink RX0 77 yX4_placeOf ∈ gBig := List.mem_filter.mpr ⟨List.mem_append_right _ (List.mem_append_right _ (List.mem_append_left _ (List.mem_of_getElem? (i := 178) rfl))), rfl⟩
theorem u_im_yX4_placeOf : Cond.instanceMethod yX4_placeOf ∈ gBig := List.mem_filter.mpr ⟨List.mem_append_right _ (List.mem_append_right _ (List.mem_append_left _ (List.mem_of_getElem? (i := 156) rfl))), rfl⟩
theorem u_se_yX4_placeOf : Cond.selects RX4 yX4_placeOf yX4_placeOf ∈ gBig := List.mem_filter.mpr ⟨List.mem_append_right _ (List.mem_append_right _ (List.mem_append_left _ (List.mem_of_getElem? (i := 157) rfl))), rfl⟩
theorem u_co_yX4_placeOf : Cond.code yX4_placeOf cX4_placeOf 2 (some .int) ∈ gBig := List.mem_filter.mpr ⟨List.mem_append_right _ (List.mem_append_right _ (List.mem_append_left _ (List.mem_of_getElem? (i := 158) rfl))), rfl⟩
theorem u_ml_RX0_57 : Cond.methodLink RX0 57 yX0_neighbour ∈ gBig := List.mem_filter.mpr ⟨List.mem_append_right _ (List.mem_append_right _ (List.mem_append_left _ (List.mem_of_getElem? (i := 179) rfl))), rfl⟩
theorem u_im_yX0_neighbour : Cond.instanceMethod yX0_neighbour ∈ gBig := List.mem_filter.mpr ⟨List.mem_append_right _ (List.mem_append_right _ (List.mem_append_left _ (List.mem_of_getElem? (i := 180) rfl))), rfl⟩
theorem u_se_yX0_neighbour : Cond.selects RX0 yX0_neighbour yX0_neighbour ∈ gBig := List.mem_filter.mpr ⟨List.mem_append_right _ (List.mem_append_right _ (List.mem_append_left _ (List.mem_of_getElem? (i := 181) rfl))), rfl⟩
theorem u_co_yX0_neighbour : Cond.code yX0_neighbour cX0_neighbour 5 (some .int) ∈ gBig := List.mem_filter.mpr ⟨List.mem_append_right _ (List.mem_append_right _ (List.mem_append_left _ (List.mem_of_getElem? (i := 182) rfl))), rfl⟩
theorem u_ml_RX0_53 : Cond.methodLink RX0 53 yX6_profile ∈ gBig := List.mem_filter.mpr ⟨List.mem_append_right _ (List.mem_append_right _ (List.mem_append_left _ (List.mem_of_getElem? (i := 204) rfl))), rfl⟩
theorem u_im_yX6_profile : Cond.instanceMethod yX6_profile ∈ gBig := List.mem_filter.mpr ⟨List.mem_append_right _ (List.mem_append_right _ (List.mem_append_left _ (List.mem_of_getElem? (i := 205) rfl))), rfl⟩
theorem u_se_yX6_profile : Cond.selects RX6 yX6_profile yX6_profile ∈ gBig := List.mem_filter.mpr ⟨List.mem_append_right _ (List.mem_append_right _ (List.mem_append_left _ (List.mem_of_getElem? (i := 206) rfl))), rfl⟩
theorem u_co_yX6_profile : Cond.code yX6_profile cX6_profile 4 (some .int) ∈ gBig := List.mem_filter.mpr ⟨List.mem_append_right _ (List.mem_append_right _ (List.mem_append_left _ (List.mem_of_getElem? (i := 207) rfl))), rfl⟩
theorem u_ml_RX0_60 : Cond.methodLink RX0 60 yX4_orientationOf ∈ gBig := List.mem_filter.mpr ⟨List.mem_append_right _ (List.mem_append_right _ (List.mem_append_left _ (List.mem_of_getElem? (i := 199) rfl))), rfl⟩
theorem u_im_yX4_orientationOf : Cond.instanceMethod yX4_orientationOf ∈ gBig := List.mem_filter.mpr ⟨List.mem_append_right _ (List.mem_append_right _ (List.mem_append_left _ (List.mem_of_getElem? (i := 147) rfl))), rfl⟩
theorem u_se_yX4_orientationOf : Cond.selects RX4 yX4_orientationOf yX4_orientationOf ∈ gBig := List.mem_filter.mpr ⟨List.mem_append_right _ (List.mem_append_right _ (List.mem_append_left _ (List.mem_of_getElem? (i := 148) rfl))), rfl⟩
theorem u_co_yX4_orientationOf : Cond.code yX4_orientationOf cX4_orientationOf 2 (some .int) ∈ gBig := List.mem_filter.mpr ⟨List.mem_append_right _ (List.mem_append_right _ (List.mem_append_left _ (List.mem_of_getElem? (i := 149) rfl))), rfl⟩
theorem u_ml_RX0_63 : Cond.methodLink RX0 63 yX6_line ∈ gBig := List.mem_filter.mpr ⟨List.mem_append_right _ (List.mem_append_right _ (List.mem_append_left _ (List.mem_of_getElem? (i := 208) rfl))), rfl⟩
theorem u_im_yX6_line : Cond.instanceMethod yX6_line ∈ gBig := List.mem_filter.mpr ⟨List.mem_append_right _ (List.mem_append_right _ (List.mem_append_left _ (List.mem_of_getElem? (i := 209) rfl))), rfl⟩
theorem u_se_yX6_line : Cond.selects RX6 yX6_line yX6_line ∈ gBig := List.mem_filter.mpr ⟨List.mem_append_right _ (List.mem_append_right _ (List.mem_append_left _ (List.mem_of_getElem? (i := 210) rfl))), rfl⟩
theorem u_co_yX6_line : Cond.code yX6_line cX6_line 4 (some .int) ∈ gBig := List.mem_filter.mpr ⟨List.mem_append_right _ (List.mem_append_right _ (List.mem_append_left _ (List.mem_of_getElem? (i := 211) rfl))), rfl⟩
theorem u_ml_RX0_66 : Cond.methodLink RX0 66 yX0_verdict ∈ gBig := List.mem_filter.mpr ⟨List.mem_append_right _ (List.mem_append_right _ (List.mem_append_left _ (List.mem_of_getElem? (i := 200) rfl))), rfl⟩
theorem u_im_yX0_verdict : Cond.instanceMethod yX0_verdict ∈ gBig := List.mem_filter.mpr ⟨List.mem_append_right _ (List.mem_append_right _ (List.mem_append_left _ (List.mem_of_getElem? (i := 201) rfl))), rfl⟩
theorem u_se_yX0_verdict : Cond.selects RX0 yX0_verdict yX0_verdict ∈ gBig := List.mem_filter.mpr ⟨List.mem_append_right _ (List.mem_append_right _ (List.mem_append_left _ (List.mem_of_getElem? (i := 202) rfl))), rfl⟩
theorem u_co_yX0_verdict : Cond.code yX0_verdict cX0_verdict 11 (some .int) ∈ gBig := List.mem_filter.mpr ⟨List.mem_append_right _ (List.mem_append_right _ (List.mem_append_left _ (List.mem_of_getElem? (i := 203) rfl))), rfl⟩
theorem u_ml_RX0_80 : Cond.methodLink RX0 80 yX0_neighbourOnPage ∈ gBig := List.mem_filter.mpr ⟨List.mem_append_right _ (List.mem_append_right _ (List.mem_append_left _ (List.mem_of_getElem? (i := 174) rfl))), rfl⟩
theorem u_im_yX0_neighbourOnPage : Cond.instanceMethod yX0_neighbourOnPage ∈ gBig := List.mem_filter.mpr ⟨List.mem_append_right _ (List.mem_append_right _ (List.mem_append_left _ (List.mem_of_getElem? (i := 175) rfl))), rfl⟩
theorem u_se_yX0_neighbourOnPage : Cond.selects RX0 yX0_neighbourOnPage yX0_neighbourOnPage ∈ gBig := List.mem_filter.mpr ⟨List.mem_append_right _ (List.mem_append_right _ (List.mem_append_left _ (List.mem_of_getElem? (i := 176) rfl))), rfl⟩
theorem u_co_yX0_neighbourOnPage : Cond.code yX0_neighbourOnPage cX0_neighbourOnPage 4 (some .int) ∈ gBig := List.mem_filter.mpr ⟨List.mem_append_right _ (List.mem_append_right _ (List.mem_append_left _ (List.mem_of_getElem? (i := 177) rfl))), rfl⟩
theorem u_ml_RX0_74 : Cond.methodLink RX0 74 yX0_verdictOnPage ∈ gBig := List.mem_filter.mpr ⟨List.mem_append_right _ (List.mem_append_right _ (List.mem_append_left _ (List.mem_of_getElem? (i := 195) rfl))), rfl⟩
theorem u_im_yX0_verdictOnPage : Cond.instanceMethod yX0_verdictOnPage ∈ gBig := List.mem_filter.mpr ⟨List.mem_append_right _ (List.mem_append_right _ (List.mem_append_left _ (List.mem_of_getElem? (i := 197) rfl))), rfl⟩
theorem u_se_yX0_verdictOnPage : Cond.selects RX0 yX0_verdictOnPage yX0_verdictOnPage ∈ gBig := List.mem_filter.mpr ⟨(List.mem_append_left _ (List.mem_map.mpr ⟨_, List.mem_append_left _ (List.mem_of_getElem? (i := 9) rfl), rfl⟩)), rfl⟩
theorem u_co_yX0_verdictOnPage : Cond.code yX0_verdictOnPage cX0_verdictOnPage 4 (some .int) ∈ gBig := List.mem_filter.mpr ⟨List.mem_append_right _ (List.mem_append_right _ (List.mem_append_left _ (List.mem_of_getElem? (i := 198) rfl))), rfl⟩
theorem u_ml_RX2_53 : Cond.methodLink RX2 53 yX0_isJoined ∈ gBig := List.mem_filter.mpr ⟨List.mem_append_right _ (List.mem_append_right _ (List.mem_append_left _ (List.mem_of_getElem? (i := 170) rfl))), rfl⟩
theorem u_im_yX0_isJoined : Cond.instanceMethod yX0_isJoined ∈ gBig := List.mem_filter.mpr ⟨List.mem_append_right _ (List.mem_append_right _ (List.mem_append_left _ (List.mem_of_getElem? (i := 171) rfl))), rfl⟩
theorem u_se_yX0_isJoined : Cond.selects RX0 yX0_isJoined yX0_isJoined ∈ gBig := List.mem_filter.mpr ⟨List.mem_append_right _ (List.mem_append_right _ (List.mem_append_left _ (List.mem_of_getElem? (i := 172) rfl))), rfl⟩
theorem u_co_yX0_isJoined : Cond.code yX0_isJoined cX0_isJoined 3 (some .boolean) ∈ gBig := List.mem_filter.mpr ⟨List.mem_append_right _ (List.mem_append_right _ (List.mem_append_left _ (List.mem_of_getElem? (i := 173) rfl))), rfl⟩
theorem u_ml_RX2_57 : Cond.methodLink RX2 57 yX0_neighbourOnPage ∈ gBig := List.mem_filter.mpr ⟨List.mem_append_right _ (List.mem_append_right _ (List.mem_append_left _ (List.mem_of_getElem? (i := 212) rfl))), rfl⟩
theorem u_fl_RX2_14 : Cond.fieldLink RX2 14 "TornPages$Groups" "lowest" "LTornPages$Row;" ∈ gBig := List.mem_filter.mpr ⟨List.mem_append_right _ (List.mem_append_left _ (List.mem_of_getElem? (i := 134) rfl)), rfl⟩
theorem u_ml_RX2_61 : Cond.methodLink RX2 61 yX5_get ∈ gBig := List.mem_filter.mpr ⟨List.mem_append_right _ (List.mem_append_right _ (List.mem_append_left _ (List.mem_of_getElem? (i := 213) rfl))), rfl⟩
theorem u_ml_RX2_65 : Cond.methodLink RX2 65 Lib.Math.min.name ∈ gBig := List.mem_filter.mpr ⟨List.mem_append_right _ (List.mem_append_right _ (List.mem_append_left _ (List.mem_of_getElem? (i := 214) rfl))), rfl⟩
theorem u_ml_RX2_45 : Cond.methodLink RX2 45 yX5_set ∈ gBig := List.mem_filter.mpr ⟨List.mem_append_right _ (List.mem_append_right _ (List.mem_append_left _ (List.mem_of_getElem? (i := 165) rfl))), rfl⟩
theorem u_ml_RX2_26 : Cond.methodLink RX2 26 yX6_size ∈ gBig := List.mem_filter.mpr ⟨List.mem_append_right _ (List.mem_append_right _ (List.mem_append_left _ (List.mem_of_getElem? (i := 163) rfl))), rfl⟩
theorem u_fl_RX2_32 : Cond.fieldLink RX2 32 "TornPages$Groups" "scraps" "I" ∈ gBig := List.mem_filter.mpr ⟨List.mem_append_right _ (List.mem_append_left _ (List.mem_of_getElem? (i := 135) rfl)), rfl⟩
theorem u_ml_RX2_49 : Cond.methodLink RX2 49 yX2_join ∈ gBig := List.mem_filter.mpr ⟨List.mem_append_right _ (List.mem_append_right _ (List.mem_append_left _ (List.mem_of_getElem? (i := 166) rfl))), rfl⟩
theorem u_im_yX2_join : Cond.instanceMethod yX2_join ∈ gBig := List.mem_filter.mpr ⟨List.mem_append_right _ (List.mem_append_right _ (List.mem_append_left _ (List.mem_of_getElem? (i := 168) rfl))), rfl⟩
theorem u_se_yX2_join : Cond.selects RX2 yX2_join yX2_join ∈ gBig := List.mem_filter.mpr ⟨(List.mem_append_left _ (List.mem_map.mpr ⟨_, List.mem_append_left _ (List.mem_of_getElem? (i := 8) rfl), rfl⟩)), rfl⟩
theorem u_in_RX2 : Cond.initialized RX2 ∈ gBig := List.mem_filter.mpr ⟨List.mem_append_right _ (List.mem_append_left _ (List.mem_of_getElem? (i := 9) rfl)), rfl⟩
theorem u_co_yX2_join : Cond.code yX2_join cX2_join 6 none ∈ gBig := List.mem_filter.mpr ⟨List.mem_append_right _ (List.mem_append_right _ (List.mem_append_left _ (List.mem_of_getElem? (i := 169) rfl))), rfl⟩
theorem u_ml_RX2_39 : Cond.methodLink RX2 39 yX4_lies ∈ gBig := List.mem_filter.mpr ⟨List.mem_append_right _ (List.mem_append_right _ (List.mem_append_left _ (List.mem_of_getElem? (i := 164) rfl))), rfl⟩
theorem u_ml_RX2_70 : Cond.methodLink RX2 70 yX2_countBelow ∈ gBig := List.mem_filter.mpr ⟨List.mem_append_right _ (List.mem_append_right _ (List.mem_append_left _ (List.mem_of_getElem? (i := 219) rfl))), rfl⟩
theorem u_im_yX2_countBelow : Cond.instanceMethod yX2_countBelow ∈ gBig := List.mem_filter.mpr ⟨List.mem_append_right _ (List.mem_append_right _ (List.mem_append_left _ (List.mem_of_getElem? (i := 221) rfl))), rfl⟩
theorem u_se_yX2_countBelow : Cond.selects RX2 yX2_countBelow yX2_countBelow ∈ gBig := List.mem_filter.mpr ⟨(List.mem_append_left _ (List.mem_map.mpr ⟨_, List.mem_append_left _ (List.mem_of_getElem? (i := 10) rfl), rfl⟩)), rfl⟩
theorem u_co_yX2_countBelow : Cond.code yX2_countBelow cX2_countBelow 4 (some .int) ∈ gBig := List.mem_filter.mpr ⟨List.mem_append_right _ (List.mem_append_right _ (List.mem_append_left _ (List.mem_of_getElem? (i := 222) rfl))), rfl⟩
theorem u_ml_RX8_185 : Cond.methodLink RX8 185 yX4_placeOf ∈ gBig := List.mem_filter.mpr ⟨List.mem_append_right _ (List.mem_append_right _ (List.mem_append_left _ (List.mem_of_getElem? (i := 155) rfl))), rfl⟩
theorem u_fl_RX8_29 : Cond.fieldLink RX8 29 "TornPages" "groups" "LTornPages$Groups;" ∈ gBig := List.mem_filter.mpr ⟨List.mem_append_right _ (List.mem_append_left _ (List.mem_of_getElem? (i := 188) rfl)), rfl⟩
theorem u_ml_RX8_147 : Cond.methodLink RX8 147 yX2_gather ∈ gBig := List.mem_filter.mpr ⟨List.mem_append_right _ (List.mem_append_right _ (List.mem_append_left _ (List.mem_of_getElem? (i := 159) rfl))), rfl⟩
theorem u_im_yX2_gather : Cond.instanceMethod yX2_gather ∈ gBig := List.mem_filter.mpr ⟨List.mem_append_right _ (List.mem_append_right _ (List.mem_append_left _ (List.mem_of_getElem? (i := 160) rfl))), rfl⟩
theorem u_se_yX2_gather : Cond.selects RX2 yX2_gather yX2_gather ∈ gBig := List.mem_filter.mpr ⟨List.mem_append_right _ (List.mem_append_right _ (List.mem_append_left _ (List.mem_of_getElem? (i := 161) rfl))), rfl⟩
theorem u_co_yX2_gather : Cond.code yX2_gather cX2_gather 4 none ∈ gBig := List.mem_filter.mpr ⟨List.mem_append_right _ (List.mem_append_right _ (List.mem_append_left _ (List.mem_of_getElem? (i := 162) rfl))), rfl⟩
theorem u_ml_RX8_227 : Cond.methodLink RX8 227 yX2_groupOf ∈ gBig := List.mem_filter.mpr ⟨List.mem_append_right _ (List.mem_append_right _ (List.mem_append_left _ (List.mem_of_getElem? (i := 215) rfl))), rfl⟩
theorem u_im_yX2_groupOf : Cond.instanceMethod yX2_groupOf ∈ gBig := List.mem_filter.mpr ⟨List.mem_append_right _ (List.mem_append_right _ (List.mem_append_left _ (List.mem_of_getElem? (i := 216) rfl))), rfl⟩
theorem u_se_yX2_groupOf : Cond.selects RX2 yX2_groupOf yX2_groupOf ∈ gBig := List.mem_filter.mpr ⟨List.mem_append_right _ (List.mem_append_right _ (List.mem_append_left _ (List.mem_of_getElem? (i := 217) rfl))), rfl⟩
theorem u_co_yX2_groupOf : Cond.code yX2_groupOf cX2_groupOf 2 (some .int) ∈ gBig := List.mem_filter.mpr ⟨List.mem_append_right _ (List.mem_append_right _ (List.mem_append_left _ (List.mem_of_getElem? (i := 218) rfl))), rfl⟩
theorem u_ml_RX8_230 : Cond.methodLink RX8 230 yX0_countFits ∈ gBig := List.mem_filter.mpr ⟨List.mem_append_right _ (List.mem_append_right _ (List.mem_append_left _ (List.mem_of_getElem? (i := 223) rfl))), rfl⟩
theorem u_im_yX0_countFits : Cond.instanceMethod yX0_countFits ∈ gBig := List.mem_filter.mpr ⟨List.mem_append_right _ (List.mem_append_right _ (List.mem_append_left _ (List.mem_of_getElem? (i := 224) rfl))), rfl⟩
theorem u_se_yX0_countFits : Cond.selects RX0 yX0_countFits yX0_countFits ∈ gBig := List.mem_filter.mpr ⟨List.mem_append_right _ (List.mem_append_right _ (List.mem_append_left _ (List.mem_of_getElem? (i := 225) rfl))), rfl⟩
theorem u_co_yX0_countFits : Cond.code yX0_countFits cX0_countFits 4 (some .int) ∈ gBig := List.mem_filter.mpr ⟨List.mem_append_right _ (List.mem_append_right _ (List.mem_append_left _ (List.mem_of_getElem? (i := 226) rfl))), rfl⟩
theorem u_ml_RX8_182 : Cond.methodLink RX8 182 yX0_countFaults ∈ gBig := List.mem_filter.mpr ⟨List.mem_append_right _ (List.mem_append_right _ (List.mem_append_left _ (List.mem_of_getElem? (i := 227) rfl))), rfl⟩
theorem u_im_yX0_countFaults : Cond.instanceMethod yX0_countFaults ∈ gBig := List.mem_filter.mpr ⟨List.mem_append_right _ (List.mem_append_right _ (List.mem_append_left _ (List.mem_of_getElem? (i := 228) rfl))), rfl⟩
theorem u_se_yX0_countFaults : Cond.selects RX0 yX0_countFaults yX0_countFaults ∈ gBig := List.mem_filter.mpr ⟨List.mem_append_right _ (List.mem_append_right _ (List.mem_append_left _ (List.mem_of_getElem? (i := 229) rfl))), rfl⟩
theorem u_co_yX0_countFaults : Cond.code yX0_countFaults cX0_countFaults 4 (some .int) ∈ gBig := List.mem_filter.mpr ⟨List.mem_append_right _ (List.mem_append_right _ (List.mem_append_left _ (List.mem_of_getElem? (i := 230) rfl))), rfl⟩
theorem u_ml_RX8_110 : Cond.methodLink RX8 110 yX6_kind ∈ gBig := List.mem_filter.mpr ⟨List.mem_append_right _ (List.mem_append_right _ (List.mem_append_left _ (List.mem_of_getElem? (i := 141) rfl))), rfl⟩
theorem u_im_yX6_kind : Cond.instanceMethod yX6_kind ∈ gBig := List.mem_filter.mpr ⟨List.mem_append_right _ (List.mem_append_right _ (List.mem_append_left _ (List.mem_of_getElem? (i := 142) rfl))), rfl⟩
theorem u_se_yX6_kind : Cond.selects RX6 yX6_kind yX6_kind ∈ gBig := List.mem_filter.mpr ⟨List.mem_append_right _ (List.mem_append_right _ (List.mem_append_left _ (List.mem_of_getElem? (i := 143) rfl))), rfl⟩
theorem u_co_yX6_kind : Cond.code yX6_kind cX6_kind 2 (some .int) ∈ gBig := List.mem_filter.mpr ⟨List.mem_append_right _ (List.mem_append_right _ (List.mem_append_left _ (List.mem_of_getElem? (i := 144) rfl))), rfl⟩
theorem u_ml_RX8_114 : Cond.methodLink RX8 114 yX4_orientationOf ∈ gBig := List.mem_filter.mpr ⟨List.mem_append_right _ (List.mem_append_right _ (List.mem_append_left _ (List.mem_of_getElem? (i := 146) rfl))), rfl⟩
theorem u_ml_RX8_117 : Cond.methodLink RX8 117 yX4_lies ∈ gBig := List.mem_filter.mpr ⟨List.mem_append_right _ (List.mem_append_right _ (List.mem_append_left _ (List.mem_of_getElem? (i := 150) rfl))), rfl⟩
theorem u_ml_RX8_120 : Cond.methodLink RX8 120 yX8_propertyOnPage ∈ gBig := List.mem_filter.mpr ⟨List.mem_append_right _ (List.mem_append_right _ (List.mem_append_left _ (List.mem_of_getElem? (i := 151) rfl))), rfl⟩
theorem u_im_yX8_propertyOnPage : Cond.instanceMethod yX8_propertyOnPage ∈ gBig := List.mem_filter.mpr ⟨List.mem_append_right _ (List.mem_append_right _ (List.mem_append_left _ (List.mem_of_getElem? (i := 153) rfl))), rfl⟩
theorem u_se_yX8_propertyOnPage : Cond.selects RX8 yX8_propertyOnPage yX8_propertyOnPage ∈ gBig := List.mem_filter.mpr ⟨(List.mem_append_left _ (List.mem_map.mpr ⟨_, List.mem_append_left _ (List.mem_of_getElem? (i := 7) rfl), rfl⟩)), rfl⟩
theorem u_co_yX8_propertyOnPage : Cond.code yX8_propertyOnPage cX8_propertyOnPage 3 (some .int) ∈ gBig := List.mem_filter.mpr ⟨List.mem_append_right _ (List.mem_append_right _ (List.mem_append_left _ (List.mem_of_getElem? (i := 154) rfl))), rfl⟩
theorem u_ml_RX8_124 : Cond.methodLink RX8 124 yX8_isOrientation ∈ gBig := List.mem_filter.mpr ⟨List.mem_append_right _ (List.mem_append_right _ (List.mem_append_left _ (List.mem_of_getElem? (i := 235) rfl))), rfl⟩
theorem u_st_yX8_isOrientation : Cond.static yX8_isOrientation ∈ gBig := List.mem_filter.mpr ⟨List.mem_append_right _ (List.mem_append_right _ (List.mem_append_left _ (List.mem_of_getElem? (i := 236) rfl))), rfl⟩
theorem u_co_yX8_isOrientation : Cond.code yX8_isOrientation cX8_isOrientation 1 (some .boolean) ∈ gBig := List.mem_filter.mpr ⟨List.mem_append_right _ (List.mem_append_right _ (List.mem_append_left _ (List.mem_of_getElem? (i := 237) rfl))), rfl⟩
theorem u_ml_RX8_127 : Cond.methodLink RX8 127 yX8_isEdge ∈ gBig := List.mem_filter.mpr ⟨List.mem_append_right _ (List.mem_append_right _ (List.mem_append_left _ (List.mem_of_getElem? (i := 238) rfl))), rfl⟩
theorem u_st_yX8_isEdge : Cond.static yX8_isEdge ∈ gBig := List.mem_filter.mpr ⟨List.mem_append_right _ (List.mem_append_right _ (List.mem_append_left _ (List.mem_of_getElem? (i := 239) rfl))), rfl⟩
theorem u_co_yX8_isEdge : Cond.code yX8_isEdge cX8_isEdge 1 (some .boolean) ∈ gBig := List.mem_filter.mpr ⟨List.mem_append_right _ (List.mem_append_right _ (List.mem_append_right _ (List.mem_append_left _ (List.mem_of_getElem? (i := 0) rfl)))), rfl⟩
theorem u_ml_RX8_130 : Cond.methodLink RX8 130 yX6_profile ∈ gBig := List.mem_filter.mpr ⟨List.mem_append_right _ (List.mem_append_right _ (List.mem_append_right _ (List.mem_append_left _ (List.mem_of_getElem? (i := 1) rfl)))), rfl⟩
theorem u_ml_RX8_134 : Cond.methodLink RX8 134 yX6_line ∈ gBig := List.mem_filter.mpr ⟨List.mem_append_right _ (List.mem_append_right _ (List.mem_append_right _ (List.mem_append_left _ (List.mem_of_getElem? (i := 2) rfl)))), rfl⟩
theorem u_ml_RX8_137 : Cond.methodLink RX8 137 yX3_size ∈ gBig := List.mem_filter.mpr ⟨List.mem_append_right _ (List.mem_append_right _ (List.mem_append_right _ (List.mem_append_left _ (List.mem_of_getElem? (i := 7) rfl)))), rfl⟩
theorem u_im_yX3_size : Cond.instanceMethod yX3_size ∈ gBig := List.mem_filter.mpr ⟨List.mem_append_right _ (List.mem_append_right _ (List.mem_append_right _ (List.mem_append_left _ (List.mem_of_getElem? (i := 8) rfl)))), rfl⟩
theorem u_se_yX3_size : Cond.selects RX3 yX3_size yX3_size ∈ gBig := List.mem_filter.mpr ⟨List.mem_append_right _ (List.mem_append_right _ (List.mem_append_right _ (List.mem_append_left _ (List.mem_of_getElem? (i := 9) rfl)))), rfl⟩
theorem u_co_yX3_size : Cond.code yX3_size cX3_size 1 (some .int) ∈ gBig := List.mem_filter.mpr ⟨List.mem_append_right _ (List.mem_append_right _ (List.mem_append_right _ (List.mem_append_left _ (List.mem_of_getElem? (i := 10) rfl)))), rfl⟩
theorem u_ml_RX8_138 : Cond.methodLink RX8 138 yX3_restore ∈ gBig := List.mem_filter.mpr ⟨List.mem_append_right _ (List.mem_append_right _ (List.mem_append_right _ (List.mem_append_left _ (List.mem_of_getElem? (i := 11) rfl)))), rfl⟩
theorem u_im_yX3_restore : Cond.instanceMethod yX3_restore ∈ gBig := List.mem_filter.mpr ⟨List.mem_append_right _ (List.mem_append_right _ (List.mem_append_right _ (List.mem_append_left _ (List.mem_of_getElem? (i := 12) rfl)))), rfl⟩
theorem u_se_yX3_restore : Cond.selects RX3 yX3_restore yX3_restore ∈ gBig := List.mem_filter.mpr ⟨List.mem_append_right _ (List.mem_append_right _ (List.mem_append_right _ (List.mem_append_left _ (List.mem_of_getElem? (i := 13) rfl)))), rfl⟩
theorem u_co_yX3_restore : Cond.code yX3_restore cX3_restore 3 none ∈ gBig := List.mem_filter.mpr ⟨List.mem_append_right _ (List.mem_append_right _ (List.mem_append_right _ (List.mem_append_left _ (List.mem_of_getElem? (i := 14) rfl)))), rfl⟩
theorem u_ml_RX0_83 : Cond.methodLink RX0 83 yX0_isJoined ∈ gBig := List.mem_filter.mpr ⟨List.mem_append_right _ (List.mem_append_right _ (List.mem_append_right _ (List.mem_append_left _ (List.mem_of_getElem? (i := 39) rfl)))), rfl⟩
theorem u_ml_RX0_87 : Cond.methodLink RX0 87 yX0_isAtBorder ∈ gBig := List.mem_filter.mpr ⟨List.mem_append_right _ (List.mem_append_right _ (List.mem_append_right _ (List.mem_append_left _ (List.mem_of_getElem? (i := 44) rfl)))), rfl⟩
theorem u_im_yX0_isAtBorder : Cond.instanceMethod yX0_isAtBorder ∈ gBig := List.mem_filter.mpr ⟨List.mem_append_right _ (List.mem_append_right _ (List.mem_append_right _ (List.mem_append_left _ (List.mem_of_getElem? (i := 46) rfl)))), rfl⟩
theorem u_se_yX0_isAtBorder : Cond.selects RX0 yX0_isAtBorder yX0_isAtBorder ∈ gBig := List.mem_filter.mpr ⟨(List.mem_append_left _ (List.mem_map.mpr ⟨_, List.mem_append_left _ (List.mem_of_getElem? (i := 11) rfl), rfl⟩)), rfl⟩
theorem u_co_yX0_isAtBorder : Cond.code yX0_isAtBorder cX0_isAtBorder 3 (some .boolean) ∈ gBig := List.mem_filter.mpr ⟨List.mem_append_right _ (List.mem_append_right _ (List.mem_append_right _ (List.mem_append_left _ (List.mem_of_getElem? (i := 47) rfl)))), rfl⟩
theorem u_ml_RX8_141 : Cond.methodLink RX8 141 yX4_width ∈ gBig := List.mem_filter.mpr ⟨List.mem_append_right _ (List.mem_append_right _ (List.mem_append_right _ (List.mem_append_left _ (List.mem_of_getElem? (i := 19) rfl)))), rfl⟩
theorem u_im_yX4_width : Cond.instanceMethod yX4_width ∈ gBig := List.mem_filter.mpr ⟨List.mem_append_right _ (List.mem_append_right _ (List.mem_append_right _ (List.mem_append_left _ (List.mem_of_getElem? (i := 20) rfl)))), rfl⟩
theorem u_se_yX4_width : Cond.selects RX4 yX4_width yX4_width ∈ gBig := List.mem_filter.mpr ⟨List.mem_append_right _ (List.mem_append_right _ (List.mem_append_right _ (List.mem_append_left _ (List.mem_of_getElem? (i := 21) rfl)))), rfl⟩
theorem u_co_yX4_width : Cond.code yX4_width cX4_width 1 (some .int) ∈ gBig := List.mem_filter.mpr ⟨List.mem_append_right _ (List.mem_append_right _ (List.mem_append_right _ (List.mem_append_left _ (List.mem_of_getElem? (i := 22) rfl)))), rfl⟩
theorem u_ml_RX8_144 : Cond.methodLink RX8 144 yX4_height ∈ gBig := List.mem_filter.mpr ⟨List.mem_append_right _ (List.mem_append_right _ (List.mem_append_right _ (List.mem_append_left _ (List.mem_of_getElem? (i := 23) rfl)))), rfl⟩
theorem u_im_yX4_height : Cond.instanceMethod yX4_height ∈ gBig := List.mem_filter.mpr ⟨List.mem_append_right _ (List.mem_append_right _ (List.mem_append_right _ (List.mem_append_left _ (List.mem_of_getElem? (i := 24) rfl)))), rfl⟩
theorem u_se_yX4_height : Cond.selects RX4 yX4_height yX4_height ∈ gBig := List.mem_filter.mpr ⟨List.mem_append_right _ (List.mem_append_right _ (List.mem_append_right _ (List.mem_append_left _ (List.mem_of_getElem? (i := 25) rfl)))), rfl⟩
theorem u_co_yX4_height : Cond.code yX4_height cX4_height 1 (some .int) ∈ gBig := List.mem_filter.mpr ⟨List.mem_append_right _ (List.mem_append_right _ (List.mem_append_right _ (List.mem_append_left _ (List.mem_of_getElem? (i := 26) rfl)))), rfl⟩
theorem u_ml_RX8_150 : Cond.methodLink RX8 150 yX2_size ∈ gBig := List.mem_filter.mpr ⟨List.mem_append_right _ (List.mem_append_right _ (List.mem_append_right _ (List.mem_append_left _ (List.mem_of_getElem? (i := 27) rfl)))), rfl⟩
theorem u_im_yX2_size : Cond.instanceMethod yX2_size ∈ gBig := List.mem_filter.mpr ⟨List.mem_append_right _ (List.mem_append_right _ (List.mem_append_right _ (List.mem_append_left _ (List.mem_of_getElem? (i := 28) rfl)))), rfl⟩
theorem u_se_yX2_size : Cond.selects RX2 yX2_size yX2_size ∈ gBig := List.mem_filter.mpr ⟨List.mem_append_right _ (List.mem_append_right _ (List.mem_append_right _ (List.mem_append_left _ (List.mem_of_getElem? (i := 29) rfl)))), rfl⟩
theorem u_co_yX2_size : Cond.code yX2_size cX2_size 1 (some .int) ∈ gBig := List.mem_filter.mpr ⟨List.mem_append_right _ (List.mem_append_right _ (List.mem_append_right _ (List.mem_append_left _ (List.mem_of_getElem? (i := 30) rfl)))), rfl⟩
theorem u_ml_RX8_151 : Cond.methodLink RX8 151 yX0_countSeams ∈ gBig := List.mem_filter.mpr ⟨List.mem_append_right _ (List.mem_append_right _ (List.mem_append_right _ (List.mem_append_left _ (List.mem_of_getElem? (i := 31) rfl)))), rfl⟩
theorem u_im_yX0_countSeams : Cond.instanceMethod yX0_countSeams ∈ gBig := List.mem_filter.mpr ⟨List.mem_append_right _ (List.mem_append_right _ (List.mem_append_right _ (List.mem_append_left _ (List.mem_of_getElem? (i := 32) rfl)))), rfl⟩
theorem u_se_yX0_countSeams : Cond.selects RX0 yX0_countSeams yX0_countSeams ∈ gBig := List.mem_filter.mpr ⟨List.mem_append_right _ (List.mem_append_right _ (List.mem_append_right _ (List.mem_append_left _ (List.mem_of_getElem? (i := 33) rfl)))), rfl⟩
theorem u_co_yX0_countSeams : Cond.code yX0_countSeams cX0_countSeams 4 (some .int) ∈ gBig := List.mem_filter.mpr ⟨List.mem_append_right _ (List.mem_append_right _ (List.mem_append_right _ (List.mem_append_left _ (List.mem_of_getElem? (i := 34) rfl)))), rfl⟩
theorem u_ml_RX8_154 : Cond.methodLink RX8 154 yX0_countFittingSeams ∈ gBig := List.mem_filter.mpr ⟨List.mem_append_right _ (List.mem_append_right _ (List.mem_append_right _ (List.mem_append_left _ (List.mem_of_getElem? (i := 35) rfl)))), rfl⟩
theorem u_im_yX0_countFittingSeams : Cond.instanceMethod yX0_countFittingSeams ∈ gBig := List.mem_filter.mpr ⟨List.mem_append_right _ (List.mem_append_right _ (List.mem_append_right _ (List.mem_append_left _ (List.mem_of_getElem? (i := 36) rfl)))), rfl⟩
theorem u_se_yX0_countFittingSeams : Cond.selects RX0 yX0_countFittingSeams yX0_countFittingSeams ∈ gBig := List.mem_filter.mpr ⟨List.mem_append_right _ (List.mem_append_right _ (List.mem_append_right _ (List.mem_append_left _ (List.mem_of_getElem? (i := 37) rfl)))), rfl⟩
theorem u_co_yX0_countFittingSeams : Cond.code yX0_countFittingSeams cX0_countFittingSeams 4 (some .int) ∈ gBig := List.mem_filter.mpr ⟨List.mem_append_right _ (List.mem_append_right _ (List.mem_append_right _ (List.mem_append_left _ (List.mem_of_getElem? (i := 38) rfl)))), rfl⟩
theorem u_ml_RX8_157 : Cond.methodLink RX8 157 yX0_countBorderEdges ∈ gBig := List.mem_filter.mpr ⟨List.mem_append_right _ (List.mem_append_right _ (List.mem_append_right _ (List.mem_append_left _ (List.mem_of_getElem? (i := 40) rfl)))), rfl⟩
theorem u_im_yX0_countBorderEdges : Cond.instanceMethod yX0_countBorderEdges ∈ gBig := List.mem_filter.mpr ⟨List.mem_append_right _ (List.mem_append_right _ (List.mem_append_right _ (List.mem_append_left _ (List.mem_of_getElem? (i := 41) rfl)))), rfl⟩
theorem u_se_yX0_countBorderEdges : Cond.selects RX0 yX0_countBorderEdges yX0_countBorderEdges ∈ gBig := List.mem_filter.mpr ⟨List.mem_append_right _ (List.mem_append_right _ (List.mem_append_right _ (List.mem_append_left _ (List.mem_of_getElem? (i := 42) rfl)))), rfl⟩
theorem u_co_yX0_countBorderEdges : Cond.code yX0_countBorderEdges cX0_countBorderEdges 5 (some .int) ∈ gBig := List.mem_filter.mpr ⟨List.mem_append_right _ (List.mem_append_right _ (List.mem_append_right _ (List.mem_append_left _ (List.mem_of_getElem? (i := 43) rfl)))), rfl⟩
theorem u_ml_RX8_160 : Cond.methodLink RX8 160 yX4_places ∈ gBig := List.mem_filter.mpr ⟨List.mem_append_right _ (List.mem_append_right _ (List.mem_append_right _ (List.mem_append_left _ (List.mem_of_getElem? (i := 48) rfl)))), rfl⟩
theorem u_ml_RX8_163 : Cond.methodLink RX8 163 yX7_length ∈ gBig := List.mem_filter.mpr ⟨List.mem_append_right _ (List.mem_append_right _ (List.mem_append_right _ (List.mem_append_left _ (List.mem_of_getElem? (i := 49) rfl)))), rfl⟩
theorem u_im_yX7_length : Cond.instanceMethod yX7_length ∈ gBig := List.mem_filter.mpr ⟨List.mem_append_right _ (List.mem_append_right _ (List.mem_append_right _ (List.mem_append_left _ (List.mem_of_getElem? (i := 50) rfl)))), rfl⟩
theorem u_se_yX7_length : Cond.selects RX7 yX7_length yX7_length ∈ gBig := List.mem_filter.mpr ⟨List.mem_append_right _ (List.mem_append_right _ (List.mem_append_right _ (List.mem_append_left _ (List.mem_of_getElem? (i := 51) rfl)))), rfl⟩
theorem u_co_yX7_length : Cond.code yX7_length cX7_length 1 (some .int) ∈ gBig := List.mem_filter.mpr ⟨List.mem_append_right _ (List.mem_append_right _ (List.mem_append_right _ (List.mem_append_left _ (List.mem_of_getElem? (i := 52) rfl)))), rfl⟩
theorem u_ml_RX8_191 : Cond.methodLink RX8 191 yX4_scrapAt ∈ gBig := List.mem_filter.mpr ⟨List.mem_append_right _ (List.mem_append_right _ (List.mem_append_right _ (List.mem_append_left _ (List.mem_of_getElem? (i := 65) rfl)))), rfl⟩
theorem u_ml_RX8_166 : Cond.methodLink RX8 166 yX8_isPlace ∈ gBig := List.mem_filter.mpr ⟨List.mem_append_right _ (List.mem_append_right _ (List.mem_append_right _ (List.mem_append_left _ (List.mem_of_getElem? (i := 57) rfl)))), rfl⟩
theorem u_im_yX8_isPlace : Cond.instanceMethod yX8_isPlace ∈ gBig := List.mem_filter.mpr ⟨List.mem_append_right _ (List.mem_append_right _ (List.mem_append_right _ (List.mem_append_left _ (List.mem_of_getElem? (i := 59) rfl)))), rfl⟩
theorem u_se_yX8_isPlace : Cond.selects RX8 yX8_isPlace yX8_isPlace ∈ gBig := List.mem_filter.mpr ⟨(List.mem_append_left _ (List.mem_map.mpr ⟨_, List.mem_append_left _ (List.mem_of_getElem? (i := 12) rfl), rfl⟩)), rfl⟩
theorem u_co_yX8_isPlace : Cond.code yX8_isPlace cX8_isPlace 2 (some .boolean) ∈ gBig := List.mem_filter.mpr ⟨List.mem_append_right _ (List.mem_append_right _ (List.mem_append_right _ (List.mem_append_left _ (List.mem_of_getElem? (i := 60) rfl)))), rfl⟩
theorem u_ml_RX8_169 : Cond.methodLink RX8 169 yX8_isFree ∈ gBig := List.mem_filter.mpr ⟨List.mem_append_right _ (List.mem_append_right _ (List.mem_append_right _ (List.mem_append_left _ (List.mem_of_getElem? (i := 61) rfl)))), rfl⟩
theorem u_im_yX8_isFree : Cond.instanceMethod yX8_isFree ∈ gBig := List.mem_filter.mpr ⟨List.mem_append_right _ (List.mem_append_right _ (List.mem_append_right _ (List.mem_append_left _ (List.mem_of_getElem? (i := 63) rfl)))), rfl⟩
theorem u_se_yX8_isFree : Cond.selects RX8 yX8_isFree yX8_isFree ∈ gBig := List.mem_filter.mpr ⟨(List.mem_append_left _ (List.mem_map.mpr ⟨_, List.mem_append_left _ (List.mem_of_getElem? (i := 13) rfl), rfl⟩)), rfl⟩
theorem u_co_yX8_isFree : Cond.code yX8_isFree cX8_isFree 3 (some .boolean) ∈ gBig := List.mem_filter.mpr ⟨List.mem_append_right _ (List.mem_append_right _ (List.mem_append_right _ (List.mem_append_left _ (List.mem_of_getElem? (i := 64) rfl)))), rfl⟩
theorem u_ml_RX8_173 : Cond.methodLink RX8 173 yX0_canLie ∈ gBig := List.mem_filter.mpr ⟨List.mem_append_right _ (List.mem_append_right _ (List.mem_append_right _ (List.mem_append_left _ (List.mem_of_getElem? (i := 66) rfl)))), rfl⟩
theorem u_im_yX0_canLie : Cond.instanceMethod yX0_canLie ∈ gBig := List.mem_filter.mpr ⟨List.mem_append_right _ (List.mem_append_right _ (List.mem_append_right _ (List.mem_append_left _ (List.mem_of_getElem? (i := 67) rfl)))), rfl⟩
theorem u_se_yX0_canLie : Cond.selects RX0 yX0_canLie yX0_canLie ∈ gBig := List.mem_filter.mpr ⟨List.mem_append_right _ (List.mem_append_right _ (List.mem_append_right _ (List.mem_append_left _ (List.mem_of_getElem? (i := 68) rfl)))), rfl⟩
theorem u_co_yX0_canLie : Cond.code yX0_canLie cX0_canLie 5 (some .boolean) ∈ gBig := List.mem_filter.mpr ⟨List.mem_append_right _ (List.mem_append_right _ (List.mem_append_right _ (List.mem_append_left _ (List.mem_of_getElem? (i := 69) rfl)))), rfl⟩
theorem u_ml_RX8_176 : Cond.methodLink RX8 176 yX4_put ∈ gBig := List.mem_filter.mpr ⟨List.mem_append_right _ (List.mem_append_right _ (List.mem_append_right _ (List.mem_append_left _ (List.mem_of_getElem? (i := 70) rfl)))), rfl⟩
theorem u_im_yX4_put : Cond.instanceMethod yX4_put ∈ gBig := List.mem_filter.mpr ⟨List.mem_append_right _ (List.mem_append_right _ (List.mem_append_right _ (List.mem_append_left _ (List.mem_of_getElem? (i := 71) rfl)))), rfl⟩
theorem u_se_yX4_put : Cond.selects RX4 yX4_put yX4_put ∈ gBig := List.mem_filter.mpr ⟨List.mem_append_right _ (List.mem_append_right _ (List.mem_append_right _ (List.mem_append_left _ (List.mem_of_getElem? (i := 72) rfl)))), rfl⟩
theorem u_co_yX4_put : Cond.code yX4_put cX4_put 4 none ∈ gBig := List.mem_filter.mpr ⟨List.mem_append_right _ (List.mem_append_right _ (List.mem_append_right _ (List.mem_append_left _ (List.mem_of_getElem? (i := 73) rfl)))), rfl⟩
theorem u_ml_RX8_179 : Cond.methodLink RX8 179 yX0_seamsAt ∈ gBig := List.mem_filter.mpr ⟨List.mem_append_right _ (List.mem_append_right _ (List.mem_append_right _ (List.mem_append_left _ (List.mem_of_getElem? (i := 74) rfl)))), rfl⟩
theorem u_im_yX0_seamsAt : Cond.instanceMethod yX0_seamsAt ∈ gBig := List.mem_filter.mpr ⟨List.mem_append_right _ (List.mem_append_right _ (List.mem_append_right _ (List.mem_append_left _ (List.mem_of_getElem? (i := 75) rfl)))), rfl⟩
theorem u_se_yX0_seamsAt : Cond.selects RX0 yX0_seamsAt yX0_seamsAt ∈ gBig := List.mem_filter.mpr ⟨List.mem_append_right _ (List.mem_append_right _ (List.mem_append_right _ (List.mem_append_left _ (List.mem_of_getElem? (i := 76) rfl)))), rfl⟩
theorem u_co_yX0_seamsAt : Cond.code yX0_seamsAt cX0_seamsAt 5 (some .int) ∈ gBig := List.mem_filter.mpr ⟨List.mem_append_right _ (List.mem_append_right _ (List.mem_append_right _ (List.mem_append_left _ (List.mem_of_getElem? (i := 77) rfl)))), rfl⟩
theorem u_ml_RX8_188 : Cond.methodLink RX8 188 yX4_take ∈ gBig := List.mem_filter.mpr ⟨List.mem_append_right _ (List.mem_append_right _ (List.mem_append_right _ (List.mem_append_left _ (List.mem_of_getElem? (i := 86) rfl)))), rfl⟩
theorem u_im_yX4_take : Cond.instanceMethod yX4_take ∈ gBig := List.mem_filter.mpr ⟨List.mem_append_right _ (List.mem_append_right _ (List.mem_append_right _ (List.mem_append_left _ (List.mem_of_getElem? (i := 87) rfl)))), rfl⟩
theorem u_se_yX4_take : Cond.selects RX4 yX4_take yX4_take ∈ gBig := List.mem_filter.mpr ⟨List.mem_append_right _ (List.mem_append_right _ (List.mem_append_right _ (List.mem_append_left _ (List.mem_of_getElem? (i := 88) rfl)))), rfl⟩
theorem u_co_yX4_take : Cond.code yX4_take cX4_take 2 none ∈ gBig := List.mem_filter.mpr ⟨List.mem_append_right _ (List.mem_append_right _ (List.mem_append_right _ (List.mem_append_left _ (List.mem_of_getElem? (i := 89) rfl)))), rfl⟩
theorem u_ml_RX8_194 : Cond.methodLink RX8 194 yX0_verdict ∈ gBig := List.mem_filter.mpr ⟨List.mem_append_right _ (List.mem_append_right _ (List.mem_append_right _ (List.mem_append_left _ (List.mem_of_getElem? (i := 102) rfl)))), rfl⟩
theorem u_ml_RX0_70 : Cond.methodLink RX0 70 yX0_canLie ∈ gBig := List.mem_filter.mpr ⟨List.mem_append_right _ (List.mem_append_right _ (List.mem_append_right _ (List.mem_append_left _ (List.mem_of_getElem? (i := 111) rfl)))), rfl⟩
theorem u_ml_RX8_198 : Cond.methodLink RX8 198 yX0_countWays ∈ gBig := List.mem_filter.mpr ⟨List.mem_append_right _ (List.mem_append_right _ (List.mem_append_right _ (List.mem_append_left _ (List.mem_of_getElem? (i := 107) rfl)))), rfl⟩
theorem u_im_yX0_countWays : Cond.instanceMethod yX0_countWays ∈ gBig := List.mem_filter.mpr ⟨List.mem_append_right _ (List.mem_append_right _ (List.mem_append_right _ (List.mem_append_left _ (List.mem_of_getElem? (i := 108) rfl)))), rfl⟩
theorem u_se_yX0_countWays : Cond.selects RX0 yX0_countWays yX0_countWays ∈ gBig := List.mem_filter.mpr ⟨List.mem_append_right _ (List.mem_append_right _ (List.mem_append_right _ (List.mem_append_left _ (List.mem_of_getElem? (i := 109) rfl)))), rfl⟩
theorem u_co_yX0_countWays : Cond.code yX0_countWays cX0_countWays 5 (some .int) ∈ gBig := List.mem_filter.mpr ⟨List.mem_append_right _ (List.mem_append_right _ (List.mem_append_right _ (List.mem_append_left _ (List.mem_of_getElem? (i := 110) rfl)))), rfl⟩
theorem u_ml_RX0_90 : Cond.methodLink RX0 90 yX4_places ∈ gBig := List.mem_filter.mpr ⟨List.mem_append_right _ (List.mem_append_right _ (List.mem_append_right _ (List.mem_append_left _ (List.mem_of_getElem? (i := 120) rfl)))), rfl⟩
theorem u_ml_RX0_93 : Cond.methodLink RX0 93 yX0_seamsAt ∈ gBig := List.mem_filter.mpr ⟨List.mem_append_right _ (List.mem_append_right _ (List.mem_append_right _ (List.mem_append_left _ (List.mem_of_getElem? (i := 121) rfl)))), rfl⟩
theorem u_ml_RX8_201 : Cond.methodLink RX8 201 yX0_bestPlace ∈ gBig := List.mem_filter.mpr ⟨List.mem_append_right _ (List.mem_append_right _ (List.mem_append_right _ (List.mem_append_left _ (List.mem_of_getElem? (i := 116) rfl)))), rfl⟩
theorem u_im_yX0_bestPlace : Cond.instanceMethod yX0_bestPlace ∈ gBig := List.mem_filter.mpr ⟨List.mem_append_right _ (List.mem_append_right _ (List.mem_append_right _ (List.mem_append_left _ (List.mem_of_getElem? (i := 117) rfl)))), rfl⟩
theorem u_se_yX0_bestPlace : Cond.selects RX0 yX0_bestPlace yX0_bestPlace ∈ gBig := List.mem_filter.mpr ⟨List.mem_append_right _ (List.mem_append_right _ (List.mem_append_right _ (List.mem_append_left _ (List.mem_of_getElem? (i := 118) rfl)))), rfl⟩
theorem u_co_yX0_bestPlace : Cond.code yX0_bestPlace cX0_bestPlace 7 (some .int) ∈ gBig := List.mem_filter.mpr ⟨List.mem_append_right _ (List.mem_append_right _ (List.mem_append_right _ (List.mem_append_left _ (List.mem_of_getElem? (i := 119) rfl)))), rfl⟩
theorem u_ml_RX0_96 : Cond.methodLink RX0 96 yX0_bestPlace ∈ gBig := List.mem_filter.mpr ⟨List.mem_append_right _ (List.mem_append_right _ (List.mem_append_right _ (List.mem_append_left _ (List.mem_of_getElem? (i := 130) rfl)))), rfl⟩
theorem u_ml_RX0_99 : Cond.methodLink RX0 99 yX4_put ∈ gBig := List.mem_filter.mpr ⟨List.mem_append_right _ (List.mem_append_right _ (List.mem_append_right _ (List.mem_append_left _ (List.mem_of_getElem? (i := 131) rfl)))), rfl⟩
theorem u_ml_RX8_204 : Cond.methodLink RX8 204 yX0_layNext ∈ gBig := List.mem_filter.mpr ⟨List.mem_append_right _ (List.mem_append_right _ (List.mem_append_right _ (List.mem_append_left _ (List.mem_of_getElem? (i := 126) rfl)))), rfl⟩
theorem u_im_yX0_layNext : Cond.instanceMethod yX0_layNext ∈ gBig := List.mem_filter.mpr ⟨List.mem_append_right _ (List.mem_append_right _ (List.mem_append_right _ (List.mem_append_left _ (List.mem_of_getElem? (i := 127) rfl)))), rfl⟩
theorem u_se_yX0_layNext : Cond.selects RX0 yX0_layNext yX0_layNext ∈ gBig := List.mem_filter.mpr ⟨List.mem_append_right _ (List.mem_append_right _ (List.mem_append_right _ (List.mem_append_left _ (List.mem_of_getElem? (i := 128) rfl)))), rfl⟩
theorem u_co_yX0_layNext : Cond.code yX0_layNext cX0_layNext 3 (some .boolean) ∈ gBig := List.mem_filter.mpr ⟨List.mem_append_right _ (List.mem_append_right _ (List.mem_append_right _ (List.mem_append_left _ (List.mem_of_getElem? (i := 129) rfl)))), rfl⟩
theorem u_ml_RX2_73 : Cond.methodLink RX2 73 yX2_groupOf ∈ gBig := List.mem_filter.mpr ⟨List.mem_append_right _ (List.mem_append_right _ (List.mem_append_right _ (List.mem_append_left _ (List.mem_of_getElem? (i := 140) rfl)))), rfl⟩
theorem u_ml_RX8_207 : Cond.methodLink RX8 207 yX2_scrapOf ∈ gBig := List.mem_filter.mpr ⟨List.mem_append_right _ (List.mem_append_right _ (List.mem_append_right _ (List.mem_append_left _ (List.mem_of_getElem? (i := 136) rfl)))), rfl⟩
theorem u_im_yX2_scrapOf : Cond.instanceMethod yX2_scrapOf ∈ gBig := List.mem_filter.mpr ⟨List.mem_append_right _ (List.mem_append_right _ (List.mem_append_right _ (List.mem_append_left _ (List.mem_of_getElem? (i := 137) rfl)))), rfl⟩
theorem u_se_yX2_scrapOf : Cond.selects RX2 yX2_scrapOf yX2_scrapOf ∈ gBig := List.mem_filter.mpr ⟨List.mem_append_right _ (List.mem_append_right _ (List.mem_append_right _ (List.mem_append_left _ (List.mem_of_getElem? (i := 138) rfl)))), rfl⟩
theorem u_co_yX2_scrapOf : Cond.code yX2_scrapOf cX2_scrapOf 5 (some .int) ∈ gBig := List.mem_filter.mpr ⟨List.mem_append_right _ (List.mem_append_right _ (List.mem_append_right _ (List.mem_append_left _ (List.mem_of_getElem? (i := 139) rfl)))), rfl⟩
theorem u_ml_RX8_213 : Cond.methodLink RX8 213 yX8_fillsFrom ∈ gBig := List.mem_filter.mpr ⟨List.mem_append_right _ (List.mem_append_right _ (List.mem_append_right _ (List.mem_append_left _ (List.mem_of_getElem? (i := 146) rfl)))), rfl⟩
theorem u_st_yX8_fillsFrom : Cond.static yX8_fillsFrom ∈ gBig := List.mem_filter.mpr ⟨List.mem_append_right _ (List.mem_append_right _ (List.mem_append_right _ (List.mem_append_left _ (List.mem_of_getElem? (i := 147) rfl)))), rfl⟩
theorem u_co_yX8_fillsFrom : Cond.code yX8_fillsFrom cX8_fillsFrom 4 (some .boolean) ∈ gBig := List.mem_filter.mpr ⟨List.mem_append_right _ (List.mem_append_right _ (List.mem_append_right _ (List.mem_append_left _ (List.mem_of_getElem? (i := 148) rfl)))), rfl⟩
theorem u_fl_RX8_16 : Cond.fieldLink RX8 16 "TornPages" "trial" "LTornPages$Desk;" ∈ gBig := List.mem_filter.mpr ⟨List.mem_append_right _ (List.mem_append_left _ (List.mem_of_getElem? (i := 186) rfl)), rfl⟩
theorem u_ml_RX8_210 : Cond.methodLink RX8 210 yX0_copy ∈ gBig := List.mem_filter.mpr ⟨List.mem_append_right _ (List.mem_append_right _ (List.mem_append_right _ (List.mem_append_left _ (List.mem_of_getElem? (i := 145) rfl)))), rfl⟩
theorem u_ml_RX7_38 : Cond.methodLink RX7 38 yX5_set ∈ gBig := List.mem_filter.mpr ⟨List.mem_append_right _ (List.mem_append_right _ (List.mem_append_right _ (List.mem_append_left _ (List.mem_of_getElem? (i := 157) rfl)))), rfl⟩
theorem u_ml_RX8_217 : Cond.methodLink RX8 217 yX7_append ∈ gBig := List.mem_filter.mpr ⟨List.mem_append_right _ (List.mem_append_right _ (List.mem_append_right _ (List.mem_append_left _ (List.mem_of_getElem? (i := 153) rfl)))), rfl⟩
theorem u_im_yX7_append : Cond.instanceMethod yX7_append ∈ gBig := List.mem_filter.mpr ⟨List.mem_append_right _ (List.mem_append_right _ (List.mem_append_right _ (List.mem_append_left _ (List.mem_of_getElem? (i := 154) rfl)))), rfl⟩
theorem u_se_yX7_append : Cond.selects RX7 yX7_append yX7_append ∈ gBig := List.mem_filter.mpr ⟨List.mem_append_right _ (List.mem_append_right _ (List.mem_append_right _ (List.mem_append_left _ (List.mem_of_getElem? (i := 155) rfl)))), rfl⟩
theorem u_co_yX7_append : Cond.code yX7_append cX7_append 2 none ∈ gBig := List.mem_filter.mpr ⟨List.mem_append_right _ (List.mem_append_right _ (List.mem_append_right _ (List.mem_append_left _ (List.mem_of_getElem? (i := 156) rfl)))), rfl⟩
theorem u_ml_RX8_219 : Cond.methodLink RX8 219 yX7_clear ∈ gBig := List.mem_filter.mpr ⟨List.mem_append_right _ (List.mem_append_right _ (List.mem_append_right _ (List.mem_append_left _ (List.mem_of_getElem? (i := 162) rfl)))), rfl⟩
theorem u_im_yX7_clear : Cond.instanceMethod yX7_clear ∈ gBig := List.mem_filter.mpr ⟨List.mem_append_right _ (List.mem_append_right _ (List.mem_append_right _ (List.mem_append_left _ (List.mem_of_getElem? (i := 163) rfl)))), rfl⟩
theorem u_se_yX7_clear : Cond.selects RX7 yX7_clear yX7_clear ∈ gBig := List.mem_filter.mpr ⟨List.mem_append_right _ (List.mem_append_right _ (List.mem_append_right _ (List.mem_append_left _ (List.mem_of_getElem? (i := 164) rfl)))), rfl⟩
theorem u_co_yX7_clear : Cond.code yX7_clear cX7_clear 1 none ∈ gBig := List.mem_filter.mpr ⟨List.mem_append_right _ (List.mem_append_right _ (List.mem_append_right _ (List.mem_append_left _ (List.mem_of_getElem? (i := 165) rfl)))), rfl⟩
theorem u_ml_RX8_221 : Cond.methodLink RX8 221 yX7_position ∈ gBig := List.mem_filter.mpr ⟨List.mem_append_right _ (List.mem_append_right _ (List.mem_append_right _ (List.mem_append_left _ (List.mem_of_getElem? (i := 170) rfl)))), rfl⟩
theorem u_im_yX7_position : Cond.instanceMethod yX7_position ∈ gBig := List.mem_filter.mpr ⟨List.mem_append_right _ (List.mem_append_right _ (List.mem_append_right _ (List.mem_append_left _ (List.mem_of_getElem? (i := 171) rfl)))), rfl⟩
theorem u_se_yX7_position : Cond.selects RX7 yX7_position yX7_position ∈ gBig := List.mem_filter.mpr ⟨List.mem_append_right _ (List.mem_append_right _ (List.mem_append_right _ (List.mem_append_left _ (List.mem_of_getElem? (i := 172) rfl)))), rfl⟩
theorem u_co_yX7_position : Cond.code yX7_position cX7_position 1 (some .int) ∈ gBig := List.mem_filter.mpr ⟨List.mem_append_right _ (List.mem_append_right _ (List.mem_append_right _ (List.mem_append_left _ (List.mem_of_getElem? (i := 173) rfl)))), rfl⟩
theorem u_fl_RX9_7 : Cond.fieldLink RX9 7 "TornPagesModel" "d" "[I" ∈ gBig := List.mem_filter.mpr ⟨List.mem_append_right _ (List.mem_append_right _ (List.mem_append_right _ (List.mem_append_left _ (List.mem_of_getElem? (i := 180) rfl)))), rfl⟩
theorem u_ml_RX9_38 : Cond.methodLink RX9 38 yX9_in ∈ gBig := List.mem_filter.mpr ⟨List.mem_append_right _ (List.mem_append_right _ (List.mem_append_right _ (List.mem_append_left _ (List.mem_of_getElem? (i := 222) rfl)))), rfl⟩
theorem u_st_yX9_in : Cond.static yX9_in ∈ gBig := List.mem_filter.mpr ⟨List.mem_append_right _ (List.mem_append_right _ (List.mem_append_right _ (List.mem_append_left _ (List.mem_of_getElem? (i := 223) rfl)))), rfl⟩
theorem u_in_RX9 : Cond.initialized RX9 ∈ gBig := List.mem_filter.mpr ⟨List.mem_append_right _ (List.mem_append_left _ (List.mem_of_getElem? (i := 12) rfl)), rfl⟩
theorem u_co_yX9_in : Cond.code yX9_in cX9_in 3 (some .boolean) ∈ gBig := List.mem_filter.mpr ⟨List.mem_append_right _ (List.mem_append_right _ (List.mem_append_right _ (List.mem_append_left _ (List.mem_of_getElem? (i := 224) rfl)))), rfl⟩
theorem u_ml_RX9_42 : Cond.methodLink RX9 42 yX9_places ∈ gBig := List.mem_filter.mpr ⟨List.mem_append_right _ (List.mem_append_right _ (List.mem_append_right _ (List.mem_append_right _ (List.mem_of_getElem? (i := 80) rfl)))), rfl⟩
theorem u_im_yX9_places : Cond.instanceMethod yX9_places ∈ gBig := List.mem_filter.mpr ⟨List.mem_append_right _ (List.mem_append_right _ (List.mem_append_right _ (List.mem_append_right _ (List.mem_of_getElem? (i := 82) rfl)))), rfl⟩
theorem u_se_yX9_places : Cond.selects RX9 yX9_places yX9_places ∈ gBig := List.mem_filter.mpr ⟨(List.mem_append_left _ (List.mem_map.mpr ⟨_, List.mem_append_right _ (List.mem_append_left _ (List.mem_of_getElem? (i := 13) rfl)), rfl⟩)), rfl⟩
theorem u_co_yX9_places : Cond.code yX9_places cX9_places 1 (some .int) ∈ gBig := List.mem_filter.mpr ⟨List.mem_append_right _ (List.mem_append_right _ (List.mem_append_right _ (List.mem_append_right _ (List.mem_of_getElem? (i := 83) rfl)))), rfl⟩
theorem u_fl_RX9_46 : Cond.fieldLink RX9 46 "TornPagesModel" "states" "I" ∈ gBig := List.mem_filter.mpr ⟨List.mem_append_right _ (List.mem_append_right _ (List.mem_append_right _ (List.mem_append_left _ (List.mem_of_getElem? (i := 182) rfl)))), rfl⟩
theorem u_fl_RX9_13 : Cond.fieldLink RX9 13 "TornPagesModel" "was" "[I" ∈ gBig := List.mem_filter.mpr ⟨List.mem_append_right _ (List.mem_append_right _ (List.mem_append_right _ (List.mem_append_left _ (List.mem_of_getElem? (i := 181) rfl)))), rfl⟩
theorem u_fl_RX9_20 : Cond.fieldLink RX9 20 "TornPagesModel" "edges" "[I" ∈ gBig := List.mem_filter.mpr ⟨List.mem_append_right _ (List.mem_append_right _ (List.mem_append_right _ (List.mem_append_left _ (List.mem_of_getElem? (i := 185) rfl)))), rfl⟩
theorem u_ml_RX9_50 : Cond.methodLink RX9 50 yX9_reversed ∈ gBig := List.mem_filter.mpr ⟨List.mem_append_right _ (List.mem_append_right _ (List.mem_append_right _ (List.mem_append_right _ (List.mem_of_getElem? (i := 57) rfl)))), rfl⟩
theorem u_st_yX9_reversed : Cond.static yX9_reversed ∈ gBig := List.mem_filter.mpr ⟨List.mem_append_right _ (List.mem_append_right _ (List.mem_append_right _ (List.mem_append_right _ (List.mem_of_getElem? (i := 58) rfl)))), rfl⟩
theorem u_co_yX9_reversed : Cond.code yX9_reversed cX9_reversed 1 (some .int) ∈ gBig := List.mem_filter.mpr ⟨List.mem_append_right _ (List.mem_append_right _ (List.mem_append_right _ (List.mem_append_right _ (List.mem_of_getElem? (i := 59) rfl)))), rfl⟩
theorem u_fl_RX9_23 : Cond.fieldLink RX9 23 "TornPagesModel" "lines" "[I" ∈ gBig := List.mem_filter.mpr ⟨List.mem_append_right _ (List.mem_append_right _ (List.mem_append_right _ (List.mem_append_left _ (List.mem_of_getElem? (i := 186) rfl)))), rfl⟩
theorem u_ml_RX9_54 : Cond.methodLink RX9 54 yX9_turns ∈ gBig := List.mem_filter.mpr ⟨List.mem_append_right _ (List.mem_append_right _ (List.mem_append_right _ (List.mem_append_right _ (List.mem_of_getElem? (i := 53) rfl)))), rfl⟩
theorem u_im_yX9_turns : Cond.instanceMethod yX9_turns ∈ gBig := List.mem_filter.mpr ⟨List.mem_append_right _ (List.mem_append_right _ (List.mem_append_right _ (List.mem_append_right _ (List.mem_of_getElem? (i := 55) rfl)))), rfl⟩
theorem u_se_yX9_turns : Cond.selects RX9 yX9_turns yX9_turns ∈ gBig := List.mem_filter.mpr ⟨(List.mem_append_left _ (List.mem_map.mpr ⟨_, List.mem_append_right _ (List.mem_append_left _ (List.mem_of_getElem? (i := 10) rfl)), rfl⟩)), rfl⟩
theorem u_co_yX9_turns : Cond.code yX9_turns cX9_turns 7 none ∈ gBig := List.mem_filter.mpr ⟨List.mem_append_right _ (List.mem_append_right _ (List.mem_append_right _ (List.mem_append_right _ (List.mem_of_getElem? (i := 56) rfl)))), rfl⟩
theorem u_ml_RX9_58 : Cond.methodLink RX9 58 yX9_profileOf ∈ gBig := List.mem_filter.mpr ⟨List.mem_append_right _ (List.mem_append_right _ (List.mem_append_right _ (List.mem_append_right _ (List.mem_of_getElem? (i := 49) rfl)))), rfl⟩
theorem u_im_yX9_profileOf : Cond.instanceMethod yX9_profileOf ∈ gBig := List.mem_filter.mpr ⟨List.mem_append_right _ (List.mem_append_right _ (List.mem_append_right _ (List.mem_append_right _ (List.mem_of_getElem? (i := 51) rfl)))), rfl⟩
theorem u_se_yX9_profileOf : Cond.selects RX9 yX9_profileOf yX9_profileOf ∈ gBig := List.mem_filter.mpr ⟨(List.mem_append_left _ (List.mem_map.mpr ⟨_, List.mem_append_right _ (List.mem_append_left _ (List.mem_of_getElem? (i := 9) rfl)), rfl⟩)), rfl⟩
theorem u_co_yX9_profileOf : Cond.code yX9_profileOf cX9_profileOf 4 (some .int) ∈ gBig := List.mem_filter.mpr ⟨List.mem_append_right _ (List.mem_append_right _ (List.mem_append_right _ (List.mem_append_right _ (List.mem_of_getElem? (i := 52) rfl)))), rfl⟩
theorem u_ml_RX9_62 : Cond.methodLink RX9 62 yX9_behind ∈ gBig := List.mem_filter.mpr ⟨List.mem_append_right _ (List.mem_append_right _ (List.mem_append_right _ (List.mem_append_right _ (List.mem_of_getElem? (i := 37) rfl)))), rfl⟩
theorem u_im_yX9_behind : Cond.instanceMethod yX9_behind ∈ gBig := List.mem_filter.mpr ⟨List.mem_append_right _ (List.mem_append_right _ (List.mem_append_right _ (List.mem_append_right _ (List.mem_of_getElem? (i := 39) rfl)))), rfl⟩
theorem u_se_yX9_behind : Cond.selects RX9 yX9_behind yX9_behind ∈ gBig := List.mem_filter.mpr ⟨(List.mem_append_left _ (List.mem_map.mpr ⟨_, List.mem_append_right _ (List.mem_append_left _ (List.mem_of_getElem? (i := 6) rfl)), rfl⟩)), rfl⟩
theorem u_co_yX9_behind : Cond.code yX9_behind cX9_behind 5 (some .int) ∈ gBig := List.mem_filter.mpr ⟨List.mem_append_right _ (List.mem_append_right _ (List.mem_append_right _ (List.mem_append_right _ (List.mem_of_getElem? (i := 40) rfl)))), rfl⟩
theorem u_ml_RX9_66 : Cond.methodLink RX9 66 yX9_scrapAt ∈ gBig := List.mem_filter.mpr ⟨List.mem_append_right _ (List.mem_append_right _ (List.mem_append_right _ (List.mem_append_right _ (List.mem_of_getElem? (i := 41) rfl)))), rfl⟩
theorem u_im_yX9_scrapAt : Cond.instanceMethod yX9_scrapAt ∈ gBig := List.mem_filter.mpr ⟨List.mem_append_right _ (List.mem_append_right _ (List.mem_append_right _ (List.mem_append_right _ (List.mem_of_getElem? (i := 43) rfl)))), rfl⟩
theorem u_se_yX9_scrapAt : Cond.selects RX9 yX9_scrapAt yX9_scrapAt ∈ gBig := List.mem_filter.mpr ⟨(List.mem_append_left _ (List.mem_map.mpr ⟨_, List.mem_append_right _ (List.mem_append_left _ (List.mem_of_getElem? (i := 7) rfl)), rfl⟩)), rfl⟩
theorem u_co_yX9_scrapAt : Cond.code yX9_scrapAt cX9_scrapAt 3 (some .int) ∈ gBig := List.mem_filter.mpr ⟨List.mem_append_right _ (List.mem_append_right _ (List.mem_append_right _ (List.mem_append_right _ (List.mem_of_getElem? (i := 44) rfl)))), rfl⟩
theorem u_ml_RX9_69 : Cond.methodLink RX9 69 yX9_reasonOf ∈ gBig := List.mem_filter.mpr ⟨List.mem_append_right _ (List.mem_append_right _ (List.mem_append_right _ (List.mem_append_right _ (List.mem_of_getElem? (i := 45) rfl)))), rfl⟩
theorem u_im_yX9_reasonOf : Cond.instanceMethod yX9_reasonOf ∈ gBig := List.mem_filter.mpr ⟨List.mem_append_right _ (List.mem_append_right _ (List.mem_append_right _ (List.mem_append_right _ (List.mem_of_getElem? (i := 47) rfl)))), rfl⟩
theorem u_se_yX9_reasonOf : Cond.selects RX9 yX9_reasonOf yX9_reasonOf ∈ gBig := List.mem_filter.mpr ⟨(List.mem_append_left _ (List.mem_map.mpr ⟨_, List.mem_append_right _ (List.mem_append_left _ (List.mem_of_getElem? (i := 8) rfl)), rfl⟩)), rfl⟩
theorem u_co_yX9_reasonOf : Cond.code yX9_reasonOf cX9_reasonOf 11 (some .int) ∈ gBig := List.mem_filter.mpr ⟨List.mem_append_right _ (List.mem_append_right _ (List.mem_append_right _ (List.mem_append_right _ (List.mem_of_getElem? (i := 48) rfl)))), rfl⟩
theorem u_ml_RX9_73 : Cond.methodLink RX9 73 yX9_records ∈ gBig := List.mem_filter.mpr ⟨List.mem_append_right _ (List.mem_append_right _ (List.mem_append_right _ (List.mem_append_left _ (List.mem_of_getElem? (i := 225) rfl)))), rfl⟩
theorem u_im_yX9_records : Cond.instanceMethod yX9_records ∈ gBig := List.mem_filter.mpr ⟨List.mem_append_right _ (List.mem_append_right _ (List.mem_append_right _ (List.mem_append_left _ (List.mem_of_getElem? (i := 227) rfl)))), rfl⟩
theorem u_se_yX9_records : Cond.selects RX9 yX9_records yX9_records ∈ gBig := List.mem_filter.mpr ⟨(List.mem_append_left _ (List.mem_map.mpr ⟨_, List.mem_append_left _ (List.mem_of_getElem? (i := 14) rfl), rfl⟩)), rfl⟩
theorem u_co_yX9_records : Cond.code yX9_records cX9_records 2 none ∈ gBig := List.mem_filter.mpr ⟨List.mem_append_right _ (List.mem_append_right _ (List.mem_append_right _ (List.mem_append_left _ (List.mem_of_getElem? (i := 228) rfl)))), rfl⟩
theorem u_ml_RX9_76 : Cond.methodLink RX9 76 yX9_isOn ∈ gBig := List.mem_filter.mpr ⟨List.mem_append_right _ (List.mem_append_right _ (List.mem_append_right _ (List.mem_append_left _ (List.mem_of_getElem? (i := 229) rfl)))), rfl⟩
theorem u_im_yX9_isOn : Cond.instanceMethod yX9_isOn ∈ gBig := List.mem_filter.mpr ⟨List.mem_append_right _ (List.mem_append_right _ (List.mem_append_right _ (List.mem_append_left _ (List.mem_of_getElem? (i := 231) rfl)))), rfl⟩
theorem u_se_yX9_isOn : Cond.selects RX9 yX9_isOn yX9_isOn ∈ gBig := List.mem_filter.mpr ⟨(List.mem_append_left _ (List.mem_map.mpr ⟨_, List.mem_append_left _ (List.mem_of_getElem? (i := 15) rfl), rfl⟩)), rfl⟩
theorem u_co_yX9_isOn : Cond.code yX9_isOn cX9_isOn 2 (some .boolean) ∈ gBig := List.mem_filter.mpr ⟨List.mem_append_right _ (List.mem_append_right _ (List.mem_append_right _ (List.mem_append_left _ (List.mem_of_getElem? (i := 232) rfl)))), rfl⟩
theorem u_fl_RX9_26 : Cond.fieldLink RX9 26 "TornPagesModel" "read" "[I" ∈ gBig := List.mem_filter.mpr ⟨List.mem_append_right _ (List.mem_append_right _ (List.mem_append_right _ (List.mem_append_left _ (List.mem_of_getElem? (i := 187) rfl)))), rfl⟩
theorem u_ml_RX9_80 : Cond.methodLink RX9 80 yX9_adds ∈ gBig := List.mem_filter.mpr ⟨List.mem_append_right _ (List.mem_append_right _ (List.mem_append_right _ (List.mem_append_left _ (List.mem_of_getElem? (i := 237) rfl)))), rfl⟩
theorem u_im_yX9_adds : Cond.instanceMethod yX9_adds ∈ gBig := List.mem_filter.mpr ⟨List.mem_append_right _ (List.mem_append_right _ (List.mem_append_right _ (List.mem_append_left _ (List.mem_of_getElem? (i := 239) rfl)))), rfl⟩
theorem u_se_yX9_adds : Cond.selects RX9 yX9_adds yX9_adds ∈ gBig := List.mem_filter.mpr ⟨(List.mem_append_left _ (List.mem_map.mpr ⟨_, List.mem_append_right _ (List.mem_append_left _ (List.mem_of_getElem? (i := 0) rfl)), rfl⟩)), rfl⟩
theorem u_co_yX9_adds : Cond.code yX9_adds cX9_adds 3 (some .int) ∈ gBig := List.mem_filter.mpr ⟨List.mem_append_right _ (List.mem_append_right _ (List.mem_append_right _ (List.mem_append_right _ (List.mem_of_getElem? (i := 0) rfl)))), rfl⟩
theorem u_fl_RX9_105 : Cond.fieldLink RX9 105 "TornPagesModel" "typed" "I" ∈ gBig := List.mem_filter.mpr ⟨List.mem_append_right _ (List.mem_append_right _ (List.mem_append_right _ (List.mem_append_left _ (List.mem_of_getElem? (i := 184) rfl)))), rfl⟩
theorem u_fl_RX9_16 : Cond.fieldLink RX9 16 "TornPagesModel" "text" "[C" ∈ gBig := List.mem_filter.mpr ⟨List.mem_append_right _ (List.mem_append_right _ (List.mem_append_right _ (List.mem_append_left _ (List.mem_of_getElem? (i := 183) rfl)))), rfl⟩
theorem u_ml_RX9_131 : Cond.methodLink RX9 131 yX9_signAt ∈ gBig := List.mem_filter.mpr ⟨List.mem_append_right _ (List.mem_append_right _ (List.mem_append_right _ (List.mem_append_right _ (List.mem_of_getElem? (i := 9) rfl)))), rfl⟩
theorem u_im_yX9_signAt : Cond.instanceMethod yX9_signAt ∈ gBig := List.mem_filter.mpr ⟨List.mem_append_right _ (List.mem_append_right _ (List.mem_append_right _ (List.mem_append_right _ (List.mem_of_getElem? (i := 11) rfl)))), rfl⟩
theorem u_se_yX9_signAt : Cond.selects RX9 yX9_signAt yX9_signAt ∈ gBig := List.mem_filter.mpr ⟨(List.mem_append_left _ (List.mem_map.mpr ⟨_, List.mem_append_right _ (List.mem_append_left _ (List.mem_of_getElem? (i := 1) rfl)), rfl⟩)), rfl⟩
theorem u_co_yX9_signAt : Cond.code yX9_signAt cX9_signAt 2 (some .int) ∈ gBig := List.mem_filter.mpr ⟨List.mem_append_right _ (List.mem_append_right _ (List.mem_append_right _ (List.mem_append_right _ (List.mem_of_getElem? (i := 12) rfl)))), rfl⟩
theorem u_ml_RX9_134 : Cond.methodLink RX9 134 yX9_isDigit ∈ gBig := List.mem_filter.mpr ⟨List.mem_append_right _ (List.mem_append_right _ (List.mem_append_right _ (List.mem_append_right _ (List.mem_of_getElem? (i := 13) rfl)))), rfl⟩
theorem u_im_yX9_isDigit : Cond.instanceMethod yX9_isDigit ∈ gBig := List.mem_filter.mpr ⟨List.mem_append_right _ (List.mem_append_right _ (List.mem_append_right _ (List.mem_append_right _ (List.mem_of_getElem? (i := 15) rfl)))), rfl⟩
theorem u_se_yX9_isDigit : Cond.selects RX9 yX9_isDigit yX9_isDigit ∈ gBig := List.mem_filter.mpr ⟨(List.mem_append_left _ (List.mem_map.mpr ⟨_, List.mem_append_right _ (List.mem_append_left _ (List.mem_of_getElem? (i := 2) rfl)), rfl⟩)), rfl⟩
theorem u_co_yX9_isDigit : Cond.code yX9_isDigit cX9_isDigit 2 (some .boolean) ∈ gBig := List.mem_filter.mpr ⟨List.mem_append_right _ (List.mem_append_right _ (List.mem_append_right _ (List.mem_append_right _ (List.mem_of_getElem? (i := 16) rfl)))), rfl⟩
theorem u_ml_RX9_83 : Cond.methodLink RX9 83 yX9_fault ∈ gBig := List.mem_filter.mpr ⟨List.mem_append_right _ (List.mem_append_right _ (List.mem_append_right _ (List.mem_append_right _ (List.mem_of_getElem? (i := 5) rfl)))), rfl⟩
theorem u_im_yX9_fault : Cond.instanceMethod yX9_fault ∈ gBig := List.mem_filter.mpr ⟨List.mem_append_right _ (List.mem_append_right _ (List.mem_append_right _ (List.mem_append_right _ (List.mem_of_getElem? (i := 6) rfl)))), rfl⟩
theorem u_se_yX9_fault : Cond.selects RX9 yX9_fault yX9_fault ∈ gBig := List.mem_filter.mpr ⟨List.mem_append_right _ (List.mem_append_right _ (List.mem_append_right _ (List.mem_append_right _ (List.mem_of_getElem? (i := 7) rfl)))), rfl⟩
theorem u_co_yX9_fault : Cond.code yX9_fault cX9_fault 5 (some .int) ∈ gBig := List.mem_filter.mpr ⟨List.mem_append_right _ (List.mem_append_right _ (List.mem_append_right _ (List.mem_append_right _ (List.mem_of_getElem? (i := 8) rfl)))), rfl⟩
theorem u_ml_RX9_86 : Cond.methodLink RX9 86 yX9_isScrap ∈ gBig := List.mem_filter.mpr ⟨List.mem_append_right _ (List.mem_append_right _ (List.mem_append_right _ (List.mem_append_right _ (List.mem_of_getElem? (i := 21) rfl)))), rfl⟩
theorem u_im_yX9_isScrap : Cond.instanceMethod yX9_isScrap ∈ gBig := List.mem_filter.mpr ⟨List.mem_append_right _ (List.mem_append_right _ (List.mem_append_right _ (List.mem_append_right _ (List.mem_of_getElem? (i := 23) rfl)))), rfl⟩
theorem u_se_yX9_isScrap : Cond.selects RX9 yX9_isScrap yX9_isScrap ∈ gBig := List.mem_filter.mpr ⟨(List.mem_append_left _ (List.mem_map.mpr ⟨_, List.mem_append_right _ (List.mem_append_left _ (List.mem_of_getElem? (i := 3) rfl)), rfl⟩)), rfl⟩
theorem u_co_yX9_isScrap : Cond.code yX9_isScrap cX9_isScrap 2 (some .boolean) ∈ gBig := List.mem_filter.mpr ⟨List.mem_append_right _ (List.mem_append_right _ (List.mem_append_right _ (List.mem_append_right _ (List.mem_of_getElem? (i := 24) rfl)))), rfl⟩
theorem u_fl_RX9_29 : Cond.fieldLink RX9 29 "TornPagesModel" "group" "[I" ∈ gBig := List.mem_filter.mpr ⟨List.mem_append_right _ (List.mem_append_right _ (List.mem_append_right _ (List.mem_append_left _ (List.mem_of_getElem? (i := 188) rfl)))), rfl⟩
theorem u_fl_RX9_99 : Cond.fieldLink RX9 99 "TornPagesModel" "groups" "I" ∈ gBig := List.mem_filter.mpr ⟨List.mem_append_right _ (List.mem_append_right _ (List.mem_append_right _ (List.mem_append_left _ (List.mem_of_getElem? (i := 189) rfl)))), rfl⟩
theorem u_ml_RX9_102 : Cond.methodLink RX9 102 yX9_spreads ∈ gBig := List.mem_filter.mpr ⟨List.mem_append_right _ (List.mem_append_right _ (List.mem_append_right _ (List.mem_append_right _ (List.mem_of_getElem? (i := 33) rfl)))), rfl⟩
theorem u_im_yX9_spreads : Cond.instanceMethod yX9_spreads ∈ gBig := List.mem_filter.mpr ⟨List.mem_append_right _ (List.mem_append_right _ (List.mem_append_right _ (List.mem_append_right _ (List.mem_of_getElem? (i := 35) rfl)))), rfl⟩
theorem u_se_yX9_spreads : Cond.selects RX9 yX9_spreads yX9_spreads ∈ gBig := List.mem_filter.mpr ⟨(List.mem_append_left _ (List.mem_map.mpr ⟨_, List.mem_append_right _ (List.mem_append_left _ (List.mem_of_getElem? (i := 5) rfl)), rfl⟩)), rfl⟩
theorem u_co_yX9_spreads : Cond.code yX9_spreads cX9_spreads 6 none ∈ gBig := List.mem_filter.mpr ⟨List.mem_append_right _ (List.mem_append_right _ (List.mem_append_right _ (List.mem_append_right _ (List.mem_of_getElem? (i := 36) rfl)))), rfl⟩
theorem u_ml_RX9_89 : Cond.methodLink RX9 89 yX9_gathers ∈ gBig := List.mem_filter.mpr ⟨List.mem_append_right _ (List.mem_append_right _ (List.mem_append_right _ (List.mem_append_right _ (List.mem_of_getElem? (i := 29) rfl)))), rfl⟩
theorem u_im_yX9_gathers : Cond.instanceMethod yX9_gathers ∈ gBig := List.mem_filter.mpr ⟨List.mem_append_right _ (List.mem_append_right _ (List.mem_append_right _ (List.mem_append_right _ (List.mem_of_getElem? (i := 31) rfl)))), rfl⟩
theorem u_se_yX9_gathers : Cond.selects RX9 yX9_gathers yX9_gathers ∈ gBig := List.mem_filter.mpr ⟨(List.mem_append_left _ (List.mem_map.mpr ⟨_, List.mem_append_right _ (List.mem_append_left _ (List.mem_of_getElem? (i := 4) rfl)), rfl⟩)), rfl⟩
theorem u_co_yX9_gathers : Cond.code yX9_gathers cX9_gathers 2 none ∈ gBig := List.mem_filter.mpr ⟨List.mem_append_right _ (List.mem_append_right _ (List.mem_append_right _ (List.mem_append_right _ (List.mem_of_getElem? (i := 32) rfl)))), rfl⟩
theorem u_ml_RX9_92 : Cond.methodLink RX9 92 yX9_fits ∈ gBig := List.mem_filter.mpr ⟨List.mem_append_right _ (List.mem_append_right _ (List.mem_append_right _ (List.mem_append_right _ (List.mem_of_getElem? (i := 60) rfl)))), rfl⟩
theorem u_im_yX9_fits : Cond.instanceMethod yX9_fits ∈ gBig := List.mem_filter.mpr ⟨List.mem_append_right _ (List.mem_append_right _ (List.mem_append_right _ (List.mem_append_right _ (List.mem_of_getElem? (i := 62) rfl)))), rfl⟩
theorem u_se_yX9_fits : Cond.selects RX9 yX9_fits yX9_fits ∈ gBig := List.mem_filter.mpr ⟨(List.mem_append_left _ (List.mem_map.mpr ⟨_, List.mem_append_right _ (List.mem_append_left _ (List.mem_of_getElem? (i := 11) rfl)), rfl⟩)), rfl⟩
theorem u_co_yX9_fits : Cond.code yX9_fits cX9_fits 8 (some .int) ∈ gBig := List.mem_filter.mpr ⟨List.mem_append_right _ (List.mem_append_right _ (List.mem_append_right _ (List.mem_append_right _ (List.mem_of_getElem? (i := 63) rfl)))), rfl⟩
theorem u_ml_RX9_96 : Cond.methodLink RX9 96 yX9_lineOf ∈ gBig := List.mem_filter.mpr ⟨List.mem_append_right _ (List.mem_append_right _ (List.mem_append_right _ (List.mem_append_right _ (List.mem_of_getElem? (i := 68) rfl)))), rfl⟩
theorem u_im_yX9_lineOf : Cond.instanceMethod yX9_lineOf ∈ gBig := List.mem_filter.mpr ⟨List.mem_append_right _ (List.mem_append_right _ (List.mem_append_right _ (List.mem_append_right _ (List.mem_of_getElem? (i := 70) rfl)))), rfl⟩
theorem u_se_yX9_lineOf : Cond.selects RX9 yX9_lineOf yX9_lineOf ∈ gBig := List.mem_filter.mpr ⟨(List.mem_append_left _ (List.mem_map.mpr ⟨_, List.mem_append_right _ (List.mem_append_left _ (List.mem_of_getElem? (i := 12) rfl)), rfl⟩)), rfl⟩
theorem u_co_yX9_lineOf : Cond.code yX9_lineOf cX9_lineOf 4 (some .int) ∈ gBig := List.mem_filter.mpr ⟨List.mem_append_right _ (List.mem_append_right _ (List.mem_append_right _ (List.mem_append_right _ (List.mem_of_getElem? (i := 71) rfl)))), rfl⟩
theorem u_ml_RX9_108 : Cond.methodLink RX9 108 yX9_isPlace ∈ gBig := List.mem_filter.mpr ⟨List.mem_append_right _ (List.mem_append_right _ (List.mem_append_right _ (List.mem_append_right _ (List.mem_of_getElem? (i := 92) rfl)))), rfl⟩
theorem u_im_yX9_isPlace : Cond.instanceMethod yX9_isPlace ∈ gBig := List.mem_filter.mpr ⟨List.mem_append_right _ (List.mem_append_right _ (List.mem_append_right _ (List.mem_append_right _ (List.mem_of_getElem? (i := 94) rfl)))), rfl⟩
theorem u_se_yX9_isPlace : Cond.selects RX9 yX9_isPlace yX9_isPlace ∈ gBig := List.mem_filter.mpr ⟨(List.mem_append_left _ (List.mem_map.mpr ⟨_, List.mem_append_right _ (List.mem_append_left _ (List.mem_of_getElem? (i := 15) rfl)), rfl⟩)), rfl⟩
theorem u_co_yX9_isPlace : Cond.code yX9_isPlace cX9_isPlace 2 (some .boolean) ∈ gBig := List.mem_filter.mpr ⟨List.mem_append_right _ (List.mem_append_right _ (List.mem_append_right _ (List.mem_append_right _ (List.mem_of_getElem? (i := 95) rfl)))), rfl⟩
theorem u_ml_RX9_111 : Cond.methodLink RX9 111 yX9_isLaying ∈ gBig := List.mem_filter.mpr ⟨List.mem_append_right _ (List.mem_append_right _ (List.mem_append_right _ (List.mem_append_right _ (List.mem_of_getElem? (i := 88) rfl)))), rfl⟩
theorem u_im_yX9_isLaying : Cond.instanceMethod yX9_isLaying ∈ gBig := List.mem_filter.mpr ⟨List.mem_append_right _ (List.mem_append_right _ (List.mem_append_right _ (List.mem_append_right _ (List.mem_of_getElem? (i := 90) rfl)))), rfl⟩
theorem u_se_yX9_isLaying : Cond.selects RX9 yX9_isLaying yX9_isLaying ∈ gBig := List.mem_filter.mpr ⟨(List.mem_append_left _ (List.mem_map.mpr ⟨_, List.mem_append_right _ (List.mem_append_left _ (List.mem_of_getElem? (i := 14) rfl)), rfl⟩)), rfl⟩
theorem u_co_yX9_isLaying : Cond.code yX9_isLaying cX9_isLaying 4 (some .boolean) ∈ gBig := List.mem_filter.mpr ⟨List.mem_append_right _ (List.mem_append_right _ (List.mem_append_right _ (List.mem_append_right _ (List.mem_of_getElem? (i := 91) rfl)))), rfl⟩
theorem u_ml_RX9_114 : Cond.methodLink RX9 114 yX9_canLie ∈ gBig := List.mem_filter.mpr ⟨List.mem_append_right _ (List.mem_append_right _ (List.mem_append_right _ (List.mem_append_right _ (List.mem_of_getElem? (i := 96) rfl)))), rfl⟩
theorem u_im_yX9_canLie : Cond.instanceMethod yX9_canLie ∈ gBig := List.mem_filter.mpr ⟨List.mem_append_right _ (List.mem_append_right _ (List.mem_append_right _ (List.mem_append_right _ (List.mem_of_getElem? (i := 98) rfl)))), rfl⟩
theorem u_se_yX9_canLie : Cond.selects RX9 yX9_canLie yX9_canLie ∈ gBig := List.mem_filter.mpr ⟨(List.mem_append_left _ (List.mem_map.mpr ⟨_, List.mem_append_right _ (List.mem_append_right _ (List.mem_of_getElem? (i := 0) rfl)), rfl⟩)), rfl⟩
theorem u_co_yX9_canLie : Cond.code yX9_canLie cX9_canLie 4 (some .boolean) ∈ gBig := List.mem_filter.mpr ⟨List.mem_append_right _ (List.mem_append_right _ (List.mem_append_right _ (List.mem_append_right _ (List.mem_of_getElem? (i := 99) rfl)))), rfl⟩
theorem u_ml_RX9_117 : Cond.methodLink RX9 117 yX9_puts ∈ gBig := List.mem_filter.mpr ⟨List.mem_append_right _ (List.mem_append_right _ (List.mem_append_right _ (List.mem_append_right _ (List.mem_of_getElem? (i := 100) rfl)))), rfl⟩
theorem u_im_yX9_puts : Cond.instanceMethod yX9_puts ∈ gBig := List.mem_filter.mpr ⟨List.mem_append_right _ (List.mem_append_right _ (List.mem_append_right _ (List.mem_append_right _ (List.mem_of_getElem? (i := 102) rfl)))), rfl⟩
theorem u_se_yX9_puts : Cond.selects RX9 yX9_puts yX9_puts ∈ gBig := List.mem_filter.mpr ⟨(List.mem_append_left _ (List.mem_map.mpr ⟨_, List.mem_append_right _ (List.mem_append_right _ (List.mem_of_getElem? (i := 1) rfl)), rfl⟩)), rfl⟩
theorem u_co_yX9_puts : Cond.code yX9_puts cX9_puts 4 none ∈ gBig := List.mem_filter.mpr ⟨List.mem_append_right _ (List.mem_append_right _ (List.mem_append_right _ (List.mem_append_right _ (List.mem_of_getElem? (i := 103) rfl)))), rfl⟩
theorem u_ml_RX9_121 : Cond.methodLink RX9 121 yX9_seams ∈ gBig := List.mem_filter.mpr ⟨List.mem_append_right _ (List.mem_append_right _ (List.mem_append_right _ (List.mem_append_right _ (List.mem_of_getElem? (i := 104) rfl)))), rfl⟩
theorem u_im_yX9_seams : Cond.instanceMethod yX9_seams ∈ gBig := List.mem_filter.mpr ⟨List.mem_append_right _ (List.mem_append_right _ (List.mem_append_right _ (List.mem_append_right _ (List.mem_of_getElem? (i := 106) rfl)))), rfl⟩
theorem u_se_yX9_seams : Cond.selects RX9 yX9_seams yX9_seams ∈ gBig := List.mem_filter.mpr ⟨(List.mem_append_left _ (List.mem_map.mpr ⟨_, List.mem_append_right _ (List.mem_append_right _ (List.mem_of_getElem? (i := 2) rfl)), rfl⟩)), rfl⟩
theorem u_co_yX9_seams : Cond.code yX9_seams cX9_seams 7 (some .int) ∈ gBig := List.mem_filter.mpr ⟨List.mem_append_right _ (List.mem_append_right _ (List.mem_append_right _ (List.mem_append_right _ (List.mem_of_getElem? (i := 107) rfl)))), rfl⟩
theorem u_ml_RX9_124 : Cond.methodLink RX9 124 yX9_best ∈ gBig := List.mem_filter.mpr ⟨List.mem_append_right _ (List.mem_append_right _ (List.mem_append_right _ (List.mem_append_right _ (List.mem_of_getElem? (i := 136) rfl)))), rfl⟩
theorem u_im_yX9_best : Cond.instanceMethod yX9_best ∈ gBig := List.mem_filter.mpr ⟨List.mem_append_right _ (List.mem_append_right _ (List.mem_append_right _ (List.mem_append_right _ (List.mem_of_getElem? (i := 138) rfl)))), rfl⟩
theorem u_se_yX9_best : Cond.selects RX9 yX9_best yX9_best ∈ gBig := List.mem_filter.mpr ⟨(List.mem_append_left _ (List.mem_map.mpr ⟨_, List.mem_append_right _ (List.mem_append_right _ (List.mem_of_getElem? (i := 3) rfl)), rfl⟩)), rfl⟩
theorem u_co_yX9_best : Cond.code yX9_best cX9_best 6 (some .int) ∈ gBig := List.mem_filter.mpr ⟨List.mem_append_right _ (List.mem_append_right _ (List.mem_append_right _ (List.mem_append_right _ (List.mem_of_getElem? (i := 139) rfl)))), rfl⟩
theorem u_fl_RX9_32 : Cond.fieldLink RX9 32 "TornPagesModel" "tried" "[I" ∈ gBig := List.mem_filter.mpr ⟨List.mem_append_right _ (List.mem_append_right _ (List.mem_append_right _ (List.mem_append_left _ (List.mem_of_getElem? (i := 190) rfl)))), rfl⟩
theorem u_ml_RX9_127 : Cond.methodLink RX9 127 yX9_fillsAll ∈ gBig := List.mem_filter.mpr ⟨List.mem_append_right _ (List.mem_append_right _ (List.mem_append_right _ (List.mem_append_right _ (List.mem_of_getElem? (i := 152) rfl)))), rfl⟩
theorem u_im_yX9_fillsAll : Cond.instanceMethod yX9_fillsAll ∈ gBig := List.mem_filter.mpr ⟨List.mem_append_right _ (List.mem_append_right _ (List.mem_append_right _ (List.mem_append_right _ (List.mem_of_getElem? (i := 154) rfl)))), rfl⟩
theorem u_se_yX9_fillsAll : Cond.selects RX9 yX9_fillsAll yX9_fillsAll ∈ gBig := List.mem_filter.mpr ⟨(List.mem_append_left _ (List.mem_map.mpr ⟨_, List.mem_append_right _ (List.mem_append_right _ (List.mem_of_getElem? (i := 4) rfl)), rfl⟩)), rfl⟩
theorem u_co_yX9_fillsAll : Cond.code yX9_fillsAll cX9_fillsAll 4 (some .boolean) ∈ gBig := List.mem_filter.mpr ⟨List.mem_append_right _ (List.mem_append_right _ (List.mem_append_right _ (List.mem_append_right _ (List.mem_of_getElem? (i := 155) rfl)))), rfl⟩
theorem u_fl_RX9_35 : Cond.fieldLink RX9 35 "TornPagesModel" "aside" "[I" ∈ gBig := List.mem_filter.mpr ⟨List.mem_append_right _ (List.mem_append_right _ (List.mem_append_right _ (List.mem_append_left _ (List.mem_of_getElem? (i := 191) rfl)))), rfl⟩
theorem u_in_RL : Cond.initialized RL ∈ gBig := List.mem_filter.mpr ⟨List.mem_append_right _ (List.mem_append_left _ (List.mem_of_getElem? (i := 0) rfl)), rfl⟩
theorem u_cl_RL_7 : Cond.classLink RL 7 RX8 ∈ gBig := List.mem_filter.mpr ⟨List.mem_append_right _ (List.mem_append_left _ (List.mem_of_getElem? (i := 14) rfl)), rfl⟩
theorem u_ins_RX8 : Cond.instantiable RX8 6 ∈ gBig := List.mem_filter.mpr ⟨List.mem_append_right _ (List.mem_append_left _ (List.mem_of_getElem? (i := 15) rfl)), rfl⟩
theorem u_ml_RL_9 : Cond.methodLink RL 9 yX8_init ∈ gBig := List.mem_filter.mpr ⟨List.mem_append_right _ (List.mem_append_left _ (List.mem_of_getElem? (i := 16) rfl)), rfl⟩
theorem u_im_yX8_init : Cond.instanceMethod yX8_init ∈ gBig := List.mem_filter.mpr ⟨List.mem_append_right _ (List.mem_append_left _ (List.mem_of_getElem? (i := 17) rfl)), rfl⟩
theorem u_co_yX8_init : Cond.code yX8_init cX8_init 1 none ∈ gBig := List.mem_filter.mpr ⟨List.mem_append_right _ (List.mem_append_left _ (List.mem_of_getElem? (i := 18) rfl)), rfl⟩
theorem u_ml_RX8_1 : Cond.methodLink RX8 1 objectInit ∈ gBig := List.mem_filter.mpr ⟨List.mem_append_right _ (List.mem_append_left _ (List.mem_of_getElem? (i := 19) rfl)), rfl⟩
theorem u_im_objectInit : Cond.instanceMethod objectInit ∈ gBig := List.mem_filter.mpr ⟨List.mem_append_right _ (List.mem_append_left _ (List.mem_of_getElem? (i := 20) rfl)), rfl⟩
theorem u_co_objectInit : Cond.code objectInit ⟨#[0xb1]⟩ 1 none ∈ gBig := List.mem_filter.mpr ⟨List.mem_append_right _ (List.mem_append_left _ (List.mem_of_getElem? (i := 21) rfl)), rfl⟩
theorem u_cl_RX8_7 : Cond.classLink RX8 7 RX0 ∈ gBig := List.mem_filter.mpr ⟨List.mem_append_right _ (List.mem_append_left _ (List.mem_of_getElem? (i := 22) rfl)), rfl⟩
theorem u_ins_RX0 : Cond.instantiable RX0 2 ∈ gBig := List.mem_filter.mpr ⟨List.mem_append_right _ (List.mem_append_left _ (List.mem_of_getElem? (i := 23) rfl)), rfl⟩
theorem u_im_yX0_init : Cond.instanceMethod yX0_init ∈ gBig := List.mem_filter.mpr ⟨List.mem_append_right _ (List.mem_append_left _ (List.mem_of_getElem? (i := 25) rfl)), rfl⟩
theorem u_co_yX0_init : Cond.code yX0_init cX0_init 1 none ∈ gBig := List.mem_filter.mpr ⟨List.mem_append_right _ (List.mem_append_left _ (List.mem_of_getElem? (i := 26) rfl)), rfl⟩
theorem u_ml_RX0_3 : Cond.methodLink RX0 3 objectInit ∈ gBig := List.mem_filter.mpr ⟨List.mem_append_right _ (List.mem_append_left _ (List.mem_of_getElem? (i := 27) rfl)), rfl⟩
theorem u_cl_RX0_9 : Cond.classLink RX0 9 RX6 ∈ gBig := List.mem_filter.mpr ⟨List.mem_append_right _ (List.mem_append_left _ (List.mem_of_getElem? (i := 28) rfl)), rfl⟩
theorem u_ins_RX6 : Cond.instantiable RX6 4 ∈ gBig := List.mem_filter.mpr ⟨List.mem_append_right _ (List.mem_append_left _ (List.mem_of_getElem? (i := 29) rfl)), rfl⟩
theorem u_im_yX6_init : Cond.instanceMethod yX6_init ∈ gBig := List.mem_filter.mpr ⟨List.mem_append_right _ (List.mem_append_left _ (List.mem_of_getElem? (i := 31) rfl)), rfl⟩
theorem u_co_yX6_init : Cond.code yX6_init cX6_init 1 none ∈ gBig := List.mem_filter.mpr ⟨List.mem_append_right _ (List.mem_append_left _ (List.mem_of_getElem? (i := 32) rfl)), rfl⟩
theorem u_ml_RX6_3 : Cond.methodLink RX6 3 objectInit ∈ gBig := List.mem_filter.mpr ⟨List.mem_append_right _ (List.mem_append_left _ (List.mem_of_getElem? (i := 33) rfl)), rfl⟩
theorem u_cl_RX6_9 : Cond.classLink RX6 9 RX5 ∈ gBig := List.mem_filter.mpr ⟨List.mem_append_right _ (List.mem_append_left _ (List.mem_of_getElem? (i := 34) rfl)), rfl⟩
theorem u_ins_RX5 : Cond.instantiable RX5 1 ∈ gBig := List.mem_filter.mpr ⟨List.mem_append_right _ (List.mem_append_left _ (List.mem_of_getElem? (i := 35) rfl)), rfl⟩
theorem u_ml_RX6_11 : Cond.methodLink RX6 11 yX5_init ∈ gBig := List.mem_filter.mpr ⟨List.mem_append_right _ (List.mem_append_left _ (List.mem_of_getElem? (i := 36) rfl)), rfl⟩
theorem u_im_yX5_init : Cond.instanceMethod yX5_init ∈ gBig := List.mem_filter.mpr ⟨List.mem_append_right _ (List.mem_append_left _ (List.mem_of_getElem? (i := 37) rfl)), rfl⟩
theorem u_co_yX5_init : Cond.code yX5_init cX5_init 2 none ∈ gBig := List.mem_filter.mpr ⟨List.mem_append_right _ (List.mem_append_left _ (List.mem_of_getElem? (i := 38) rfl)), rfl⟩
theorem u_ml_RX5_3 : Cond.methodLink RX5 3 objectInit ∈ gBig := List.mem_filter.mpr ⟨List.mem_append_right _ (List.mem_append_left _ (List.mem_of_getElem? (i := 39) rfl)), rfl⟩
theorem u_ml_RX5_9 : Cond.methodLink RX5 9 Lib.Math.max.name ∈ gBig := List.mem_filter.mpr ⟨List.mem_append_right _ (List.mem_append_left _ (List.mem_of_getElem? (i := 40) rfl)), rfl⟩
theorem u_st_Lib_Math_max_name : Cond.static Lib.Math.max.name ∈ gBig := List.mem_filter.mpr ⟨List.mem_append_right _ (List.mem_append_left _ (List.mem_of_getElem? (i := 41) rfl)), rfl⟩
theorem u_co_Lib_Math_max_name : Cond.code Lib.Math.max.name Lib.Math.max.code 2 (some .int) ∈ gBig := List.mem_filter.mpr ⟨List.mem_append_right _ (List.mem_append_left _ (List.mem_of_getElem? (i := 42) rfl)), rfl⟩
theorem u_ac_int : Cond.arrayClass .int ∈ gBig := List.mem_filter.mpr ⟨List.mem_append_right _ (List.mem_append_left _ (List.mem_of_getElem? (i := 47) rfl)), rfl⟩
theorem u_cl_RX0_18 : Cond.classLink RX0 18 RX4 ∈ gBig := List.mem_filter.mpr ⟨List.mem_append_right _ (List.mem_append_left _ (List.mem_of_getElem? (i := 61) rfl)), rfl⟩
theorem u_ins_RX4 : Cond.instantiable RX4 5 ∈ gBig := List.mem_filter.mpr ⟨List.mem_append_right _ (List.mem_append_left _ (List.mem_of_getElem? (i := 62) rfl)), rfl⟩
theorem u_ml_RX0_20 : Cond.methodLink RX0 20 yX4_init ∈ gBig := List.mem_filter.mpr ⟨List.mem_append_right _ (List.mem_append_left _ (List.mem_of_getElem? (i := 63) rfl)), rfl⟩
theorem u_im_yX4_init : Cond.instanceMethod yX4_init ∈ gBig := List.mem_filter.mpr ⟨List.mem_append_right _ (List.mem_append_left _ (List.mem_of_getElem? (i := 64) rfl)), rfl⟩
theorem u_co_yX4_init : Cond.code yX4_init cX4_init 1 none ∈ gBig := List.mem_filter.mpr ⟨List.mem_append_right _ (List.mem_append_left _ (List.mem_of_getElem? (i := 65) rfl)), rfl⟩
theorem u_ml_RX4_3 : Cond.methodLink RX4 3 objectInit ∈ gBig := List.mem_filter.mpr ⟨List.mem_append_right _ (List.mem_append_left _ (List.mem_of_getElem? (i := 66) rfl)), rfl⟩
theorem u_cl_RX4_9 : Cond.classLink RX4 9 RX5 ∈ gBig := List.mem_filter.mpr ⟨List.mem_append_right _ (List.mem_append_left _ (List.mem_of_getElem? (i := 67) rfl)), rfl⟩
theorem u_ml_RX4_11 : Cond.methodLink RX4 11 yX5_init ∈ gBig := List.mem_filter.mpr ⟨List.mem_append_right _ (List.mem_append_left _ (List.mem_of_getElem? (i := 68) rfl)), rfl⟩
theorem u_ml_RX4_26 : Cond.methodLink RX4 26 yX4_clear ∈ gBig := List.mem_filter.mpr ⟨List.mem_append_right _ (List.mem_append_left _ (List.mem_of_getElem? (i := 69) rfl)), rfl⟩
theorem u_cl_RX8_19 : Cond.classLink RX8 19 RX3 ∈ gBig := List.mem_filter.mpr ⟨List.mem_append_right _ (List.mem_append_left _ (List.mem_of_getElem? (i := 107) rfl)), rfl⟩
theorem u_ins_RX3 : Cond.instantiable RX3 3 ∈ gBig := List.mem_filter.mpr ⟨List.mem_append_right _ (List.mem_append_left _ (List.mem_of_getElem? (i := 108) rfl)), rfl⟩
theorem u_ml_RX8_21 : Cond.methodLink RX8 21 yX3_init ∈ gBig := List.mem_filter.mpr ⟨List.mem_append_right _ (List.mem_append_left _ (List.mem_of_getElem? (i := 109) rfl)), rfl⟩
theorem u_im_yX3_init : Cond.instanceMethod yX3_init ∈ gBig := List.mem_filter.mpr ⟨List.mem_append_right _ (List.mem_append_left _ (List.mem_of_getElem? (i := 110) rfl)), rfl⟩
theorem u_co_yX3_init : Cond.code yX3_init cX3_init 2 none ∈ gBig := List.mem_filter.mpr ⟨List.mem_append_right _ (List.mem_append_left _ (List.mem_of_getElem? (i := 111) rfl)), rfl⟩
theorem u_ml_RX3_3 : Cond.methodLink RX3 3 objectInit ∈ gBig := List.mem_filter.mpr ⟨List.mem_append_right _ (List.mem_append_left _ (List.mem_of_getElem? (i := 112) rfl)), rfl⟩
theorem u_cl_RX3_9 : Cond.classLink RX3 9 RX0 ∈ gBig := List.mem_filter.mpr ⟨List.mem_append_right _ (List.mem_append_left _ (List.mem_of_getElem? (i := 113) rfl)), rfl⟩
theorem u_cl_RX8_26 : Cond.classLink RX8 26 RX2 ∈ gBig := List.mem_filter.mpr ⟨List.mem_append_right _ (List.mem_append_left _ (List.mem_of_getElem? (i := 126) rfl)), rfl⟩
theorem u_ins_RX2 : Cond.instantiable RX2 2 ∈ gBig := List.mem_filter.mpr ⟨List.mem_append_right _ (List.mem_append_left _ (List.mem_of_getElem? (i := 127) rfl)), rfl⟩
theorem u_im_yX2_init : Cond.instanceMethod yX2_init ∈ gBig := List.mem_filter.mpr ⟨List.mem_append_right _ (List.mem_append_left _ (List.mem_of_getElem? (i := 129) rfl)), rfl⟩
theorem u_co_yX2_init : Cond.code yX2_init cX2_init 1 none ∈ gBig := List.mem_filter.mpr ⟨List.mem_append_right _ (List.mem_append_left _ (List.mem_of_getElem? (i := 130) rfl)), rfl⟩
theorem u_ml_RX2_3 : Cond.methodLink RX2 3 objectInit ∈ gBig := List.mem_filter.mpr ⟨List.mem_append_right _ (List.mem_append_left _ (List.mem_of_getElem? (i := 131) rfl)), rfl⟩
theorem u_cl_RX2_9 : Cond.classLink RX2 9 RX5 ∈ gBig := List.mem_filter.mpr ⟨List.mem_append_right _ (List.mem_append_left _ (List.mem_of_getElem? (i := 132) rfl)), rfl⟩
theorem u_ml_RX2_11 : Cond.methodLink RX2 11 yX5_init ∈ gBig := List.mem_filter.mpr ⟨List.mem_append_right _ (List.mem_append_left _ (List.mem_of_getElem? (i := 133) rfl)), rfl⟩
theorem u_cl_RX8_33 : Cond.classLink RX8 33 RX7 ∈ gBig := List.mem_filter.mpr ⟨List.mem_append_right _ (List.mem_append_left _ (List.mem_of_getElem? (i := 141) rfl)), rfl⟩
theorem u_ins_RX7 : Cond.instantiable RX7 5 ∈ gBig := List.mem_filter.mpr ⟨List.mem_append_right _ (List.mem_append_left _ (List.mem_of_getElem? (i := 142) rfl)), rfl⟩
theorem u_im_yX7_init : Cond.instanceMethod yX7_init ∈ gBig := List.mem_filter.mpr ⟨List.mem_append_right _ (List.mem_append_left _ (List.mem_of_getElem? (i := 144) rfl)), rfl⟩
theorem u_co_yX7_init : Cond.code yX7_init cX7_init 1 none ∈ gBig := List.mem_filter.mpr ⟨List.mem_append_right _ (List.mem_append_left _ (List.mem_of_getElem? (i := 145) rfl)), rfl⟩
theorem u_ml_RX7_3 : Cond.methodLink RX7 3 objectInit ∈ gBig := List.mem_filter.mpr ⟨List.mem_append_right _ (List.mem_append_left _ (List.mem_of_getElem? (i := 146) rfl)), rfl⟩
theorem u_cl_RX7_9 : Cond.classLink RX7 9 RX5 ∈ gBig := List.mem_filter.mpr ⟨List.mem_append_right _ (List.mem_append_left _ (List.mem_of_getElem? (i := 147) rfl)), rfl⟩
theorem u_ml_RX7_11 : Cond.methodLink RX7 11 yX5_init ∈ gBig := List.mem_filter.mpr ⟨List.mem_append_right _ (List.mem_append_left _ (List.mem_of_getElem? (i := 148) rfl)), rfl⟩
theorem u_cl_RX7_20 : Cond.classLink RX7 20 RX1 ∈ gBig := List.mem_filter.mpr ⟨List.mem_append_right _ (List.mem_append_left _ (List.mem_of_getElem? (i := 149) rfl)), rfl⟩
theorem u_ins_RX1 : Cond.instantiable RX1 3 ∈ gBig := List.mem_filter.mpr ⟨List.mem_append_right _ (List.mem_append_left _ (List.mem_of_getElem? (i := 150) rfl)), rfl⟩
theorem u_im_yX1_init : Cond.instanceMethod yX1_init ∈ gBig := List.mem_filter.mpr ⟨List.mem_append_right _ (List.mem_append_left _ (List.mem_of_getElem? (i := 152) rfl)), rfl⟩
theorem u_co_yX1_init : Cond.code yX1_init cX1_init 1 none ∈ gBig := List.mem_filter.mpr ⟨List.mem_append_right _ (List.mem_append_left _ (List.mem_of_getElem? (i := 153) rfl)), rfl⟩
theorem u_ml_RX1_3 : Cond.methodLink RX1 3 objectInit ∈ gBig := List.mem_filter.mpr ⟨List.mem_append_right _ (List.mem_append_left _ (List.mem_of_getElem? (i := 154) rfl)), rfl⟩
theorem u_cl_RX1_9 : Cond.classLink RX1 9 RX5 ∈ gBig := List.mem_filter.mpr ⟨List.mem_append_right _ (List.mem_append_left _ (List.mem_of_getElem? (i := 155) rfl)), rfl⟩
theorem u_ml_RX1_11 : Cond.methodLink RX1 11 yX5_init ∈ gBig := List.mem_filter.mpr ⟨List.mem_append_right _ (List.mem_append_left _ (List.mem_of_getElem? (i := 156) rfl)), rfl⟩
theorem u_cl_RX8_40 : Cond.classLink RX8 40 RX1 ∈ gBig := List.mem_filter.mpr ⟨List.mem_append_right _ (List.mem_append_left _ (List.mem_of_getElem? (i := 183) rfl)), rfl⟩
theorem u_ml_RL_13 : Cond.methodLink RL 13 yX8_reset ∈ gBig := List.mem_filter.mpr ⟨List.mem_append_right _ (List.mem_append_left _ (List.mem_of_getElem? (i := 204) rfl)), rfl⟩
theorem u_im_yX8_reset : Cond.instanceMethod yX8_reset ∈ gBig := List.mem_filter.mpr ⟨List.mem_append_right _ (List.mem_append_left _ (List.mem_of_getElem? (i := 205) rfl)), rfl⟩
theorem u_se_yX8_reset : Cond.selects RX8 yX8_reset yX8_reset ∈ gBig := List.mem_filter.mpr ⟨List.mem_append_right _ (List.mem_append_left _ (List.mem_of_getElem? (i := 206) rfl)), rfl⟩
theorem u_co_yX8_reset : Cond.code yX8_reset cX8_reset 4 (some .int) ∈ gBig := List.mem_filter.mpr ⟨List.mem_append_right _ (List.mem_append_left _ (List.mem_of_getElem? (i := 207) rfl)), rfl⟩
theorem u_ml_RL_18 : Cond.methodLink RL 18 yX8_addScrap ∈ gBig := List.mem_filter.mpr ⟨List.mem_append_right _ (List.mem_append_right _ (List.mem_append_left _ (List.mem_of_getElem? (i := 19) rfl))), rfl⟩
theorem u_im_yX8_addScrap : Cond.instanceMethod yX8_addScrap ∈ gBig := List.mem_filter.mpr ⟨List.mem_append_right _ (List.mem_append_right _ (List.mem_append_left _ (List.mem_of_getElem? (i := 20) rfl))), rfl⟩
theorem u_se_yX8_addScrap : Cond.selects RX8 yX8_addScrap yX8_addScrap ∈ gBig := List.mem_filter.mpr ⟨List.mem_append_right _ (List.mem_append_right _ (List.mem_append_left _ (List.mem_of_getElem? (i := 21) rfl))), rfl⟩
theorem u_co_yX8_addScrap : Cond.code yX8_addScrap cX8_addScrap 6 (some .int) ∈ gBig := List.mem_filter.mpr ⟨List.mem_append_right _ (List.mem_append_right _ (List.mem_append_left _ (List.mem_of_getElem? (i := 22) rfl))), rfl⟩
theorem u_ml_RL_23 : Cond.methodLink RL 23 yX8_add ∈ gBig := List.mem_filter.mpr ⟨List.mem_append_right _ (List.mem_append_right _ (List.mem_append_left _ (List.mem_of_getElem? (i := 76) rfl))), rfl⟩
theorem u_im_yX8_add : Cond.instanceMethod yX8_add ∈ gBig := List.mem_filter.mpr ⟨List.mem_append_right _ (List.mem_append_right _ (List.mem_append_left _ (List.mem_of_getElem? (i := 77) rfl))), rfl⟩
theorem u_se_yX8_add : Cond.selects RX8 yX8_add yX8_add ∈ gBig := List.mem_filter.mpr ⟨List.mem_append_right _ (List.mem_append_right _ (List.mem_append_left _ (List.mem_of_getElem? (i := 78) rfl))), rfl⟩
theorem u_co_yX8_add : Cond.code yX8_add cX8_add 1 (some .int) ∈ gBig := List.mem_filter.mpr ⟨List.mem_append_right _ (List.mem_append_right _ (List.mem_append_left _ (List.mem_of_getElem? (i := 79) rfl))), rfl⟩
theorem u_ml_RL_28 : Cond.methodLink RL 28 yX8_removeScrap ∈ gBig := List.mem_filter.mpr ⟨List.mem_append_right _ (List.mem_append_right _ (List.mem_append_left _ (List.mem_of_getElem? (i := 111) rfl))), rfl⟩
theorem u_im_yX8_removeScrap : Cond.instanceMethod yX8_removeScrap ∈ gBig := List.mem_filter.mpr ⟨List.mem_append_right _ (List.mem_append_right _ (List.mem_append_left _ (List.mem_of_getElem? (i := 112) rfl))), rfl⟩
theorem u_se_yX8_removeScrap : Cond.selects RX8 yX8_removeScrap yX8_removeScrap ∈ gBig := List.mem_filter.mpr ⟨List.mem_append_right _ (List.mem_append_right _ (List.mem_append_left _ (List.mem_of_getElem? (i := 113) rfl))), rfl⟩
theorem u_co_yX8_removeScrap : Cond.code yX8_removeScrap cX8_removeScrap 2 (some .int) ∈ gBig := List.mem_filter.mpr ⟨List.mem_append_right _ (List.mem_append_right _ (List.mem_append_left _ (List.mem_of_getElem? (i := 114) rfl))), rfl⟩
theorem u_ml_RL_33 : Cond.methodLink RL 33 yX8_scrap ∈ gBig := List.mem_filter.mpr ⟨List.mem_append_right _ (List.mem_append_right _ (List.mem_append_left _ (List.mem_of_getElem? (i := 137) rfl))), rfl⟩
theorem u_im_yX8_scrap : Cond.instanceMethod yX8_scrap ∈ gBig := List.mem_filter.mpr ⟨List.mem_append_right _ (List.mem_append_right _ (List.mem_append_left _ (List.mem_of_getElem? (i := 138) rfl))), rfl⟩
theorem u_se_yX8_scrap : Cond.selects RX8 yX8_scrap yX8_scrap ∈ gBig := List.mem_filter.mpr ⟨List.mem_append_right _ (List.mem_append_right _ (List.mem_append_left _ (List.mem_of_getElem? (i := 139) rfl))), rfl⟩
theorem u_co_yX8_scrap : Cond.code yX8_scrap cX8_scrap 3 (some .int) ∈ gBig := List.mem_filter.mpr ⟨List.mem_append_right _ (List.mem_append_right _ (List.mem_append_left _ (List.mem_of_getElem? (i := 140) rfl))), rfl⟩
theorem u_ml_RL_37 : Cond.methodLink RL 37 yX8_edge ∈ gBig := List.mem_filter.mpr ⟨List.mem_append_right _ (List.mem_append_right _ (List.mem_append_left _ (List.mem_of_getElem? (i := 231) rfl))), rfl⟩
theorem u_im_yX8_edge : Cond.instanceMethod yX8_edge ∈ gBig := List.mem_filter.mpr ⟨List.mem_append_right _ (List.mem_append_right _ (List.mem_append_left _ (List.mem_of_getElem? (i := 232) rfl))), rfl⟩
theorem u_se_yX8_edge : Cond.selects RX8 yX8_edge yX8_edge ∈ gBig := List.mem_filter.mpr ⟨List.mem_append_right _ (List.mem_append_right _ (List.mem_append_left _ (List.mem_of_getElem? (i := 233) rfl))), rfl⟩
theorem u_co_yX8_edge : Cond.code yX8_edge cX8_edge 5 (some .int) ∈ gBig := List.mem_filter.mpr ⟨List.mem_append_right _ (List.mem_append_right _ (List.mem_append_left _ (List.mem_of_getElem? (i := 234) rfl))), rfl⟩
theorem u_ml_RL_42 : Cond.methodLink RL 42 yX8_undo ∈ gBig := List.mem_filter.mpr ⟨List.mem_append_right _ (List.mem_append_right _ (List.mem_append_right _ (List.mem_append_left _ (List.mem_of_getElem? (i := 3) rfl)))), rfl⟩
theorem u_im_yX8_undo : Cond.instanceMethod yX8_undo ∈ gBig := List.mem_filter.mpr ⟨List.mem_append_right _ (List.mem_append_right _ (List.mem_append_right _ (List.mem_append_left _ (List.mem_of_getElem? (i := 4) rfl)))), rfl⟩
theorem u_se_yX8_undo : Cond.selects RX8 yX8_undo yX8_undo ∈ gBig := List.mem_filter.mpr ⟨List.mem_append_right _ (List.mem_append_right _ (List.mem_append_right _ (List.mem_append_left _ (List.mem_of_getElem? (i := 5) rfl)))), rfl⟩
theorem u_co_yX8_undo : Cond.code yX8_undo cX8_undo 1 (some .int) ∈ gBig := List.mem_filter.mpr ⟨List.mem_append_right _ (List.mem_append_right _ (List.mem_append_right _ (List.mem_append_left _ (List.mem_of_getElem? (i := 6) rfl)))), rfl⟩
theorem u_ml_RL_46 : Cond.methodLink RL 46 yX8_count ∈ gBig := List.mem_filter.mpr ⟨List.mem_append_right _ (List.mem_append_right _ (List.mem_append_right _ (List.mem_append_left _ (List.mem_of_getElem? (i := 15) rfl)))), rfl⟩
theorem u_im_yX8_count : Cond.instanceMethod yX8_count ∈ gBig := List.mem_filter.mpr ⟨List.mem_append_right _ (List.mem_append_right _ (List.mem_append_right _ (List.mem_append_left _ (List.mem_of_getElem? (i := 16) rfl)))), rfl⟩
theorem u_se_yX8_count : Cond.selects RX8 yX8_count yX8_count ∈ gBig := List.mem_filter.mpr ⟨List.mem_append_right _ (List.mem_append_right _ (List.mem_append_right _ (List.mem_append_left _ (List.mem_of_getElem? (i := 17) rfl)))), rfl⟩
theorem u_co_yX8_count : Cond.code yX8_count cX8_count 2 (some .int) ∈ gBig := List.mem_filter.mpr ⟨List.mem_append_right _ (List.mem_append_right _ (List.mem_append_right _ (List.mem_append_left _ (List.mem_of_getElem? (i := 18) rfl)))), rfl⟩
theorem u_ml_RL_50 : Cond.methodLink RL 50 yX8_lay ∈ gBig := List.mem_filter.mpr ⟨List.mem_append_right _ (List.mem_append_right _ (List.mem_append_right _ (List.mem_append_left _ (List.mem_of_getElem? (i := 53) rfl)))), rfl⟩
theorem u_im_yX8_lay : Cond.instanceMethod yX8_lay ∈ gBig := List.mem_filter.mpr ⟨List.mem_append_right _ (List.mem_append_right _ (List.mem_append_right _ (List.mem_append_left _ (List.mem_of_getElem? (i := 54) rfl)))), rfl⟩
theorem u_se_yX8_lay : Cond.selects RX8 yX8_lay yX8_lay ∈ gBig := List.mem_filter.mpr ⟨List.mem_append_right _ (List.mem_append_right _ (List.mem_append_right _ (List.mem_append_left _ (List.mem_of_getElem? (i := 55) rfl)))), rfl⟩
theorem u_co_yX8_lay : Cond.code yX8_lay cX8_lay 4 (some .int) ∈ gBig := List.mem_filter.mpr ⟨List.mem_append_right _ (List.mem_append_right _ (List.mem_append_right _ (List.mem_append_left _ (List.mem_of_getElem? (i := 56) rfl)))), rfl⟩
theorem u_ml_RL_55 : Cond.methodLink RL 55 yX8_force ∈ gBig := List.mem_filter.mpr ⟨List.mem_append_right _ (List.mem_append_right _ (List.mem_append_right _ (List.mem_append_left _ (List.mem_of_getElem? (i := 78) rfl)))), rfl⟩
theorem u_im_yX8_force : Cond.instanceMethod yX8_force ∈ gBig := List.mem_filter.mpr ⟨List.mem_append_right _ (List.mem_append_right _ (List.mem_append_right _ (List.mem_append_left _ (List.mem_of_getElem? (i := 79) rfl)))), rfl⟩
theorem u_se_yX8_force : Cond.selects RX8 yX8_force yX8_force ∈ gBig := List.mem_filter.mpr ⟨List.mem_append_right _ (List.mem_append_right _ (List.mem_append_right _ (List.mem_append_left _ (List.mem_of_getElem? (i := 80) rfl)))), rfl⟩
theorem u_co_yX8_force : Cond.code yX8_force cX8_force 4 (some .int) ∈ gBig := List.mem_filter.mpr ⟨List.mem_append_right _ (List.mem_append_right _ (List.mem_append_right _ (List.mem_append_left _ (List.mem_of_getElem? (i := 81) rfl)))), rfl⟩
theorem u_ml_RL_59 : Cond.methodLink RL 59 yX8_lift ∈ gBig := List.mem_filter.mpr ⟨List.mem_append_right _ (List.mem_append_right _ (List.mem_append_right _ (List.mem_append_left _ (List.mem_of_getElem? (i := 82) rfl)))), rfl⟩
theorem u_im_yX8_lift : Cond.instanceMethod yX8_lift ∈ gBig := List.mem_filter.mpr ⟨List.mem_append_right _ (List.mem_append_right _ (List.mem_append_right _ (List.mem_append_left _ (List.mem_of_getElem? (i := 83) rfl)))), rfl⟩
theorem u_se_yX8_lift : Cond.selects RX8 yX8_lift yX8_lift ∈ gBig := List.mem_filter.mpr ⟨List.mem_append_right _ (List.mem_append_right _ (List.mem_append_right _ (List.mem_append_left _ (List.mem_of_getElem? (i := 84) rfl)))), rfl⟩
theorem u_co_yX8_lift : Cond.code yX8_lift cX8_lift 3 (some .int) ∈ gBig := List.mem_filter.mpr ⟨List.mem_append_right _ (List.mem_append_right _ (List.mem_append_right _ (List.mem_append_left _ (List.mem_of_getElem? (i := 85) rfl)))), rfl⟩
theorem u_ml_RL_63 : Cond.methodLink RL 63 yX8_turn ∈ gBig := List.mem_filter.mpr ⟨List.mem_append_right _ (List.mem_append_right _ (List.mem_append_right _ (List.mem_append_left _ (List.mem_of_getElem? (i := 90) rfl)))), rfl⟩
theorem u_im_yX8_turn : Cond.instanceMethod yX8_turn ∈ gBig := List.mem_filter.mpr ⟨List.mem_append_right _ (List.mem_append_right _ (List.mem_append_right _ (List.mem_append_left _ (List.mem_of_getElem? (i := 91) rfl)))), rfl⟩
theorem u_se_yX8_turn : Cond.selects RX8 yX8_turn yX8_turn ∈ gBig := List.mem_filter.mpr ⟨List.mem_append_right _ (List.mem_append_right _ (List.mem_append_right _ (List.mem_append_left _ (List.mem_of_getElem? (i := 92) rfl)))), rfl⟩
theorem u_co_yX8_turn : Cond.code yX8_turn cX8_turn 3 (some .int) ∈ gBig := List.mem_filter.mpr ⟨List.mem_append_right _ (List.mem_append_right _ (List.mem_append_right _ (List.mem_append_left _ (List.mem_of_getElem? (i := 93) rfl)))), rfl⟩
theorem u_ml_RL_67 : Cond.methodLink RL 67 yX8_at ∈ gBig := List.mem_filter.mpr ⟨List.mem_append_right _ (List.mem_append_right _ (List.mem_append_right _ (List.mem_append_left _ (List.mem_of_getElem? (i := 94) rfl)))), rfl⟩
theorem u_im_yX8_at : Cond.instanceMethod yX8_at ∈ gBig := List.mem_filter.mpr ⟨List.mem_append_right _ (List.mem_append_right _ (List.mem_append_right _ (List.mem_append_left _ (List.mem_of_getElem? (i := 95) rfl)))), rfl⟩
theorem u_se_yX8_at : Cond.selects RX8 yX8_at yX8_at ∈ gBig := List.mem_filter.mpr ⟨List.mem_append_right _ (List.mem_append_right _ (List.mem_append_right _ (List.mem_append_left _ (List.mem_of_getElem? (i := 96) rfl)))), rfl⟩
theorem u_co_yX8_at : Cond.code yX8_at cX8_at 3 (some .int) ∈ gBig := List.mem_filter.mpr ⟨List.mem_append_right _ (List.mem_append_right _ (List.mem_append_right _ (List.mem_append_left _ (List.mem_of_getElem? (i := 97) rfl)))), rfl⟩
theorem u_ml_RL_71 : Cond.methodLink RL 71 yX8_reason ∈ gBig := List.mem_filter.mpr ⟨List.mem_append_right _ (List.mem_append_right _ (List.mem_append_right _ (List.mem_append_left _ (List.mem_of_getElem? (i := 98) rfl)))), rfl⟩
theorem u_im_yX8_reason : Cond.instanceMethod yX8_reason ∈ gBig := List.mem_filter.mpr ⟨List.mem_append_right _ (List.mem_append_right _ (List.mem_append_right _ (List.mem_append_left _ (List.mem_of_getElem? (i := 99) rfl)))), rfl⟩
theorem u_se_yX8_reason : Cond.selects RX8 yX8_reason yX8_reason ∈ gBig := List.mem_filter.mpr ⟨List.mem_append_right _ (List.mem_append_right _ (List.mem_append_right _ (List.mem_append_left _ (List.mem_of_getElem? (i := 100) rfl)))), rfl⟩
theorem u_co_yX8_reason : Cond.code yX8_reason cX8_reason 5 (some .int) ∈ gBig := List.mem_filter.mpr ⟨List.mem_append_right _ (List.mem_append_right _ (List.mem_append_right _ (List.mem_append_left _ (List.mem_of_getElem? (i := 101) rfl)))), rfl⟩
theorem u_ml_RL_75 : Cond.methodLink RL 75 yX8_ways ∈ gBig := List.mem_filter.mpr ⟨List.mem_append_right _ (List.mem_append_right _ (List.mem_append_right _ (List.mem_append_left _ (List.mem_of_getElem? (i := 103) rfl)))), rfl⟩
theorem u_im_yX8_ways : Cond.instanceMethod yX8_ways ∈ gBig := List.mem_filter.mpr ⟨List.mem_append_right _ (List.mem_append_right _ (List.mem_append_right _ (List.mem_append_left _ (List.mem_of_getElem? (i := 104) rfl)))), rfl⟩
theorem u_se_yX8_ways : Cond.selects RX8 yX8_ways yX8_ways ∈ gBig := List.mem_filter.mpr ⟨List.mem_append_right _ (List.mem_append_right _ (List.mem_append_right _ (List.mem_append_left _ (List.mem_of_getElem? (i := 105) rfl)))), rfl⟩
theorem u_co_yX8_ways : Cond.code yX8_ways cX8_ways 4 (some .int) ∈ gBig := List.mem_filter.mpr ⟨List.mem_append_right _ (List.mem_append_right _ (List.mem_append_right _ (List.mem_append_left _ (List.mem_of_getElem? (i := 106) rfl)))), rfl⟩
theorem u_ml_RL_79 : Cond.methodLink RL 79 yX8_bestFor ∈ gBig := List.mem_filter.mpr ⟨List.mem_append_right _ (List.mem_append_right _ (List.mem_append_right _ (List.mem_append_left _ (List.mem_of_getElem? (i := 112) rfl)))), rfl⟩
theorem u_im_yX8_bestFor : Cond.instanceMethod yX8_bestFor ∈ gBig := List.mem_filter.mpr ⟨List.mem_append_right _ (List.mem_append_right _ (List.mem_append_right _ (List.mem_append_left _ (List.mem_of_getElem? (i := 113) rfl)))), rfl⟩
theorem u_se_yX8_bestFor : Cond.selects RX8 yX8_bestFor yX8_bestFor ∈ gBig := List.mem_filter.mpr ⟨List.mem_append_right _ (List.mem_append_right _ (List.mem_append_right _ (List.mem_append_left _ (List.mem_of_getElem? (i := 114) rfl)))), rfl⟩
theorem u_co_yX8_bestFor : Cond.code yX8_bestFor cX8_bestFor 3 (some .int) ∈ gBig := List.mem_filter.mpr ⟨List.mem_append_right _ (List.mem_append_right _ (List.mem_append_right _ (List.mem_append_left _ (List.mem_of_getElem? (i := 115) rfl)))), rfl⟩
theorem u_ml_RL_83 : Cond.methodLink RL 83 yX8_fill ∈ gBig := List.mem_filter.mpr ⟨List.mem_append_right _ (List.mem_append_right _ (List.mem_append_right _ (List.mem_append_left _ (List.mem_of_getElem? (i := 122) rfl)))), rfl⟩
theorem u_im_yX8_fill : Cond.instanceMethod yX8_fill ∈ gBig := List.mem_filter.mpr ⟨List.mem_append_right _ (List.mem_append_right _ (List.mem_append_right _ (List.mem_append_left _ (List.mem_of_getElem? (i := 123) rfl)))), rfl⟩
theorem u_se_yX8_fill : Cond.selects RX8 yX8_fill yX8_fill ∈ gBig := List.mem_filter.mpr ⟨List.mem_append_right _ (List.mem_append_right _ (List.mem_append_right _ (List.mem_append_left _ (List.mem_of_getElem? (i := 124) rfl)))), rfl⟩
theorem u_co_yX8_fill : Cond.code yX8_fill cX8_fill 2 (some .int) ∈ gBig := List.mem_filter.mpr ⟨List.mem_append_right _ (List.mem_append_right _ (List.mem_append_right _ (List.mem_append_left _ (List.mem_of_getElem? (i := 125) rfl)))), rfl⟩
theorem u_ml_RL_87 : Cond.methodLink RL 87 yX8_member ∈ gBig := List.mem_filter.mpr ⟨List.mem_append_right _ (List.mem_append_right _ (List.mem_append_right _ (List.mem_append_left _ (List.mem_of_getElem? (i := 132) rfl)))), rfl⟩
theorem u_im_yX8_member : Cond.instanceMethod yX8_member ∈ gBig := List.mem_filter.mpr ⟨List.mem_append_right _ (List.mem_append_right _ (List.mem_append_right _ (List.mem_append_left _ (List.mem_of_getElem? (i := 133) rfl)))), rfl⟩
theorem u_se_yX8_member : Cond.selects RX8 yX8_member yX8_member ∈ gBig := List.mem_filter.mpr ⟨List.mem_append_right _ (List.mem_append_right _ (List.mem_append_right _ (List.mem_append_left _ (List.mem_of_getElem? (i := 134) rfl)))), rfl⟩
theorem u_co_yX8_member : Cond.code yX8_member cX8_member 4 (some .int) ∈ gBig := List.mem_filter.mpr ⟨List.mem_append_right _ (List.mem_append_right _ (List.mem_append_right _ (List.mem_append_left _ (List.mem_of_getElem? (i := 135) rfl)))), rfl⟩
theorem u_ml_RL_91 : Cond.methodLink RL 91 yX8_canFill ∈ gBig := List.mem_filter.mpr ⟨List.mem_append_right _ (List.mem_append_right _ (List.mem_append_right _ (List.mem_append_left _ (List.mem_of_getElem? (i := 141) rfl)))), rfl⟩
theorem u_im_yX8_canFill : Cond.instanceMethod yX8_canFill ∈ gBig := List.mem_filter.mpr ⟨List.mem_append_right _ (List.mem_append_right _ (List.mem_append_right _ (List.mem_append_left _ (List.mem_of_getElem? (i := 142) rfl)))), rfl⟩
theorem u_se_yX8_canFill : Cond.selects RX8 yX8_canFill yX8_canFill ∈ gBig := List.mem_filter.mpr ⟨List.mem_append_right _ (List.mem_append_right _ (List.mem_append_right _ (List.mem_append_left _ (List.mem_of_getElem? (i := 143) rfl)))), rfl⟩
theorem u_co_yX8_canFill : Cond.code yX8_canFill cX8_canFill 2 (some .int) ∈ gBig := List.mem_filter.mpr ⟨List.mem_append_right _ (List.mem_append_right _ (List.mem_append_right _ (List.mem_append_left _ (List.mem_of_getElem? (i := 144) rfl)))), rfl⟩
theorem u_ml_RL_95 : Cond.methodLink RL 95 yX8_type ∈ gBig := List.mem_filter.mpr ⟨List.mem_append_right _ (List.mem_append_right _ (List.mem_append_right _ (List.mem_append_left _ (List.mem_of_getElem? (i := 149) rfl)))), rfl⟩
theorem u_im_yX8_type : Cond.instanceMethod yX8_type ∈ gBig := List.mem_filter.mpr ⟨List.mem_append_right _ (List.mem_append_right _ (List.mem_append_right _ (List.mem_append_left _ (List.mem_of_getElem? (i := 150) rfl)))), rfl⟩
theorem u_se_yX8_type : Cond.selects RX8 yX8_type yX8_type ∈ gBig := List.mem_filter.mpr ⟨List.mem_append_right _ (List.mem_append_right _ (List.mem_append_right _ (List.mem_append_left _ (List.mem_of_getElem? (i := 151) rfl)))), rfl⟩
theorem u_co_yX8_type : Cond.code yX8_type cX8_type 2 (some .int) ∈ gBig := List.mem_filter.mpr ⟨List.mem_append_right _ (List.mem_append_right _ (List.mem_append_right _ (List.mem_append_left _ (List.mem_of_getElem? (i := 152) rfl)))), rfl⟩
theorem u_ml_RL_99 : Cond.methodLink RL 99 yX8_clearText ∈ gBig := List.mem_filter.mpr ⟨List.mem_append_right _ (List.mem_append_right _ (List.mem_append_right _ (List.mem_append_left _ (List.mem_of_getElem? (i := 158) rfl)))), rfl⟩
theorem u_im_yX8_clearText : Cond.instanceMethod yX8_clearText ∈ gBig := List.mem_filter.mpr ⟨List.mem_append_right _ (List.mem_append_right _ (List.mem_append_right _ (List.mem_append_left _ (List.mem_of_getElem? (i := 159) rfl)))), rfl⟩
theorem u_se_yX8_clearText : Cond.selects RX8 yX8_clearText yX8_clearText ∈ gBig := List.mem_filter.mpr ⟨List.mem_append_right _ (List.mem_append_right _ (List.mem_append_right _ (List.mem_append_left _ (List.mem_of_getElem? (i := 160) rfl)))), rfl⟩
theorem u_co_yX8_clearText : Cond.code yX8_clearText cX8_clearText 2 (some .int) ∈ gBig := List.mem_filter.mpr ⟨List.mem_append_right _ (List.mem_append_right _ (List.mem_append_right _ (List.mem_append_left _ (List.mem_of_getElem? (i := 161) rfl)))), rfl⟩
theorem u_ml_RL_103 : Cond.methodLink RL 103 yX8_fault ∈ gBig := List.mem_filter.mpr ⟨List.mem_append_right _ (List.mem_append_right _ (List.mem_append_right _ (List.mem_append_left _ (List.mem_of_getElem? (i := 166) rfl)))), rfl⟩
theorem u_im_yX8_fault : Cond.instanceMethod yX8_fault ∈ gBig := List.mem_filter.mpr ⟨List.mem_append_right _ (List.mem_append_right _ (List.mem_append_right _ (List.mem_append_left _ (List.mem_of_getElem? (i := 167) rfl)))), rfl⟩
theorem u_se_yX8_fault : Cond.selects RX8 yX8_fault yX8_fault ∈ gBig := List.mem_filter.mpr ⟨List.mem_append_right _ (List.mem_append_right _ (List.mem_append_right _ (List.mem_append_left _ (List.mem_of_getElem? (i := 168) rfl)))), rfl⟩
theorem u_co_yX8_fault : Cond.code yX8_fault cX8_fault 1 (some .int) ∈ gBig := List.mem_filter.mpr ⟨List.mem_append_right _ (List.mem_append_right _ (List.mem_append_right _ (List.mem_append_left _ (List.mem_of_getElem? (i := 169) rfl)))), rfl⟩
theorem u_cl_RL_10 : Cond.classLink RL 10 RX9 ∈ gBig := List.mem_filter.mpr ⟨List.mem_append_right _ (List.mem_append_right _ (List.mem_append_right _ (List.mem_append_left _ (List.mem_of_getElem? (i := 174) rfl)))), rfl⟩
theorem u_ins_RX9 : Cond.instantiable RX9 12 ∈ gBig := List.mem_filter.mpr ⟨List.mem_append_right _ (List.mem_append_right _ (List.mem_append_right _ (List.mem_append_left _ (List.mem_of_getElem? (i := 175) rfl)))), rfl⟩
theorem u_ml_RL_12 : Cond.methodLink RL 12 yX9_init ∈ gBig := List.mem_filter.mpr ⟨List.mem_append_right _ (List.mem_append_right _ (List.mem_append_right _ (List.mem_append_left _ (List.mem_of_getElem? (i := 176) rfl)))), rfl⟩
theorem u_im_yX9_init : Cond.instanceMethod yX9_init ∈ gBig := List.mem_filter.mpr ⟨List.mem_append_right _ (List.mem_append_right _ (List.mem_append_right _ (List.mem_append_left _ (List.mem_of_getElem? (i := 177) rfl)))), rfl⟩
theorem u_co_yX9_init : Cond.code yX9_init cX9_init 1 none ∈ gBig := List.mem_filter.mpr ⟨List.mem_append_right _ (List.mem_append_right _ (List.mem_append_right _ (List.mem_append_left _ (List.mem_of_getElem? (i := 178) rfl)))), rfl⟩
theorem u_ml_RX9_1 : Cond.methodLink RX9 1 objectInit ∈ gBig := List.mem_filter.mpr ⟨List.mem_append_right _ (List.mem_append_right _ (List.mem_append_right _ (List.mem_append_left _ (List.mem_of_getElem? (i := 179) rfl)))), rfl⟩
theorem u_ac_char : Cond.arrayClass .char ∈ gBig := List.mem_filter.mpr ⟨List.mem_append_right _ (List.mem_append_right _ (List.mem_append_right _ (List.mem_append_left _ (List.mem_of_getElem? (i := 217) rfl)))), rfl⟩
theorem u_ml_RL_17 : Cond.methodLink RL 17 yX9_reset ∈ gBig := List.mem_filter.mpr ⟨List.mem_append_right _ (List.mem_append_right _ (List.mem_append_right _ (List.mem_append_left _ (List.mem_of_getElem? (i := 218) rfl)))), rfl⟩
theorem u_im_yX9_reset : Cond.instanceMethod yX9_reset ∈ gBig := List.mem_filter.mpr ⟨List.mem_append_right _ (List.mem_append_right _ (List.mem_append_right _ (List.mem_append_left _ (List.mem_of_getElem? (i := 219) rfl)))), rfl⟩
theorem u_se_yX9_reset : Cond.selects RX9 yX9_reset yX9_reset ∈ gBig := List.mem_filter.mpr ⟨List.mem_append_right _ (List.mem_append_right _ (List.mem_append_right _ (List.mem_append_left _ (List.mem_of_getElem? (i := 220) rfl)))), rfl⟩
theorem u_co_yX9_reset : Cond.code yX9_reset cX9_reset 5 (some .int) ∈ gBig := List.mem_filter.mpr ⟨List.mem_append_right _ (List.mem_append_right _ (List.mem_append_right _ (List.mem_append_left _ (List.mem_of_getElem? (i := 221) rfl)))), rfl⟩
theorem u_ml_RL_22 : Cond.methodLink RL 22 yX9_addScrap ∈ gBig := List.mem_filter.mpr ⟨List.mem_append_right _ (List.mem_append_right _ (List.mem_append_right _ (List.mem_append_left _ (List.mem_of_getElem? (i := 233) rfl)))), rfl⟩
theorem u_im_yX9_addScrap : Cond.instanceMethod yX9_addScrap ∈ gBig := List.mem_filter.mpr ⟨List.mem_append_right _ (List.mem_append_right _ (List.mem_append_right _ (List.mem_append_left _ (List.mem_of_getElem? (i := 234) rfl)))), rfl⟩
theorem u_se_yX9_addScrap : Cond.selects RX9 yX9_addScrap yX9_addScrap ∈ gBig := List.mem_filter.mpr ⟨List.mem_append_right _ (List.mem_append_right _ (List.mem_append_right _ (List.mem_append_left _ (List.mem_of_getElem? (i := 235) rfl)))), rfl⟩
theorem u_co_yX9_addScrap : Cond.code yX9_addScrap cX9_addScrap 7 (some .int) ∈ gBig := List.mem_filter.mpr ⟨List.mem_append_right _ (List.mem_append_right _ (List.mem_append_right _ (List.mem_append_left _ (List.mem_of_getElem? (i := 236) rfl)))), rfl⟩
theorem u_ml_RL_27 : Cond.methodLink RL 27 yX9_add ∈ gBig := List.mem_filter.mpr ⟨List.mem_append_right _ (List.mem_append_right _ (List.mem_append_right _ (List.mem_append_right _ (List.mem_of_getElem? (i := 1) rfl)))), rfl⟩
theorem u_im_yX9_add : Cond.instanceMethod yX9_add ∈ gBig := List.mem_filter.mpr ⟨List.mem_append_right _ (List.mem_append_right _ (List.mem_append_right _ (List.mem_append_right _ (List.mem_of_getElem? (i := 2) rfl)))), rfl⟩
theorem u_se_yX9_add : Cond.selects RX9 yX9_add yX9_add ∈ gBig := List.mem_filter.mpr ⟨List.mem_append_right _ (List.mem_append_right _ (List.mem_append_right _ (List.mem_append_right _ (List.mem_of_getElem? (i := 3) rfl)))), rfl⟩
theorem u_co_yX9_add : Cond.code yX9_add cX9_add 1 (some .int) ∈ gBig := List.mem_filter.mpr ⟨List.mem_append_right _ (List.mem_append_right _ (List.mem_append_right _ (List.mem_append_right _ (List.mem_of_getElem? (i := 4) rfl)))), rfl⟩
theorem u_ml_RL_32 : Cond.methodLink RL 32 yX9_removeScrap ∈ gBig := List.mem_filter.mpr ⟨List.mem_append_right _ (List.mem_append_right _ (List.mem_append_right _ (List.mem_append_right _ (List.mem_of_getElem? (i := 17) rfl)))), rfl⟩
theorem u_im_yX9_removeScrap : Cond.instanceMethod yX9_removeScrap ∈ gBig := List.mem_filter.mpr ⟨List.mem_append_right _ (List.mem_append_right _ (List.mem_append_right _ (List.mem_append_right _ (List.mem_of_getElem? (i := 18) rfl)))), rfl⟩
theorem u_se_yX9_removeScrap : Cond.selects RX9 yX9_removeScrap yX9_removeScrap ∈ gBig := List.mem_filter.mpr ⟨List.mem_append_right _ (List.mem_append_right _ (List.mem_append_right _ (List.mem_append_right _ (List.mem_of_getElem? (i := 19) rfl)))), rfl⟩
theorem u_co_yX9_removeScrap : Cond.code yX9_removeScrap cX9_removeScrap 4 (some .int) ∈ gBig := List.mem_filter.mpr ⟨List.mem_append_right _ (List.mem_append_right _ (List.mem_append_right _ (List.mem_append_right _ (List.mem_of_getElem? (i := 20) rfl)))), rfl⟩
theorem u_ml_RL_36 : Cond.methodLink RL 36 yX9_scrap ∈ gBig := List.mem_filter.mpr ⟨List.mem_append_right _ (List.mem_append_right _ (List.mem_append_right _ (List.mem_append_right _ (List.mem_of_getElem? (i := 25) rfl)))), rfl⟩
theorem u_im_yX9_scrap : Cond.instanceMethod yX9_scrap ∈ gBig := List.mem_filter.mpr ⟨List.mem_append_right _ (List.mem_append_right _ (List.mem_append_right _ (List.mem_append_right _ (List.mem_of_getElem? (i := 26) rfl)))), rfl⟩
theorem u_se_yX9_scrap : Cond.selects RX9 yX9_scrap yX9_scrap ∈ gBig := List.mem_filter.mpr ⟨List.mem_append_right _ (List.mem_append_right _ (List.mem_append_right _ (List.mem_append_right _ (List.mem_of_getElem? (i := 27) rfl)))), rfl⟩
theorem u_co_yX9_scrap : Cond.code yX9_scrap cX9_scrap 3 (some .int) ∈ gBig := List.mem_filter.mpr ⟨List.mem_append_right _ (List.mem_append_right _ (List.mem_append_right _ (List.mem_append_right _ (List.mem_of_getElem? (i := 28) rfl)))), rfl⟩
theorem u_ml_RL_41 : Cond.methodLink RL 41 yX9_edge ∈ gBig := List.mem_filter.mpr ⟨List.mem_append_right _ (List.mem_append_right _ (List.mem_append_right _ (List.mem_append_right _ (List.mem_of_getElem? (i := 64) rfl)))), rfl⟩
theorem u_im_yX9_edge : Cond.instanceMethod yX9_edge ∈ gBig := List.mem_filter.mpr ⟨List.mem_append_right _ (List.mem_append_right _ (List.mem_append_right _ (List.mem_append_right _ (List.mem_of_getElem? (i := 65) rfl)))), rfl⟩
theorem u_se_yX9_edge : Cond.selects RX9 yX9_edge yX9_edge ∈ gBig := List.mem_filter.mpr ⟨List.mem_append_right _ (List.mem_append_right _ (List.mem_append_right _ (List.mem_append_right _ (List.mem_of_getElem? (i := 66) rfl)))), rfl⟩
theorem u_co_yX9_edge : Cond.code yX9_edge cX9_edge 5 (some .int) ∈ gBig := List.mem_filter.mpr ⟨List.mem_append_right _ (List.mem_append_right _ (List.mem_append_right _ (List.mem_append_right _ (List.mem_of_getElem? (i := 67) rfl)))), rfl⟩
theorem u_ml_RL_45 : Cond.methodLink RL 45 yX9_undo ∈ gBig := List.mem_filter.mpr ⟨List.mem_append_right _ (List.mem_append_right _ (List.mem_append_right _ (List.mem_append_right _ (List.mem_of_getElem? (i := 72) rfl)))), rfl⟩
theorem u_im_yX9_undo : Cond.instanceMethod yX9_undo ∈ gBig := List.mem_filter.mpr ⟨List.mem_append_right _ (List.mem_append_right _ (List.mem_append_right _ (List.mem_append_right _ (List.mem_of_getElem? (i := 73) rfl)))), rfl⟩
theorem u_se_yX9_undo : Cond.selects RX9 yX9_undo yX9_undo ∈ gBig := List.mem_filter.mpr ⟨List.mem_append_right _ (List.mem_append_right _ (List.mem_append_right _ (List.mem_append_right _ (List.mem_of_getElem? (i := 74) rfl)))), rfl⟩
theorem u_co_yX9_undo : Cond.code yX9_undo cX9_undo 2 (some .int) ∈ gBig := List.mem_filter.mpr ⟨List.mem_append_right _ (List.mem_append_right _ (List.mem_append_right _ (List.mem_append_right _ (List.mem_of_getElem? (i := 75) rfl)))), rfl⟩
theorem u_ml_RL_49 : Cond.methodLink RL 49 yX9_count ∈ gBig := List.mem_filter.mpr ⟨List.mem_append_right _ (List.mem_append_right _ (List.mem_append_right _ (List.mem_append_right _ (List.mem_of_getElem? (i := 76) rfl)))), rfl⟩
theorem u_im_yX9_count : Cond.instanceMethod yX9_count ∈ gBig := List.mem_filter.mpr ⟨List.mem_append_right _ (List.mem_append_right _ (List.mem_append_right _ (List.mem_append_right _ (List.mem_of_getElem? (i := 77) rfl)))), rfl⟩
theorem u_se_yX9_count : Cond.selects RX9 yX9_count yX9_count ∈ gBig := List.mem_filter.mpr ⟨List.mem_append_right _ (List.mem_append_right _ (List.mem_append_right _ (List.mem_append_right _ (List.mem_of_getElem? (i := 78) rfl)))), rfl⟩
theorem u_co_yX9_count : Cond.code yX9_count cX9_count 12 (some .int) ∈ gBig := List.mem_filter.mpr ⟨List.mem_append_right _ (List.mem_append_right _ (List.mem_append_right _ (List.mem_append_right _ (List.mem_of_getElem? (i := 79) rfl)))), rfl⟩
theorem u_ml_RL_54 : Cond.methodLink RL 54 yX9_lay ∈ gBig := List.mem_filter.mpr ⟨List.mem_append_right _ (List.mem_append_right _ (List.mem_append_right _ (List.mem_append_right _ (List.mem_of_getElem? (i := 84) rfl)))), rfl⟩
theorem u_im_yX9_lay : Cond.instanceMethod yX9_lay ∈ gBig := List.mem_filter.mpr ⟨List.mem_append_right _ (List.mem_append_right _ (List.mem_append_right _ (List.mem_append_right _ (List.mem_of_getElem? (i := 85) rfl)))), rfl⟩
theorem u_se_yX9_lay : Cond.selects RX9 yX9_lay yX9_lay ∈ gBig := List.mem_filter.mpr ⟨List.mem_append_right _ (List.mem_append_right _ (List.mem_append_right _ (List.mem_append_right _ (List.mem_of_getElem? (i := 86) rfl)))), rfl⟩
theorem u_co_yX9_lay : Cond.code yX9_lay cX9_lay 4 (some .int) ∈ gBig := List.mem_filter.mpr ⟨List.mem_append_right _ (List.mem_append_right _ (List.mem_append_right _ (List.mem_append_right _ (List.mem_of_getElem? (i := 87) rfl)))), rfl⟩
theorem u_ml_RL_58 : Cond.methodLink RL 58 yX9_force ∈ gBig := List.mem_filter.mpr ⟨List.mem_append_right _ (List.mem_append_right _ (List.mem_append_right _ (List.mem_append_right _ (List.mem_of_getElem? (i := 108) rfl)))), rfl⟩
theorem u_im_yX9_force : Cond.instanceMethod yX9_force ∈ gBig := List.mem_filter.mpr ⟨List.mem_append_right _ (List.mem_append_right _ (List.mem_append_right _ (List.mem_append_right _ (List.mem_of_getElem? (i := 109) rfl)))), rfl⟩
theorem u_se_yX9_force : Cond.selects RX9 yX9_force yX9_force ∈ gBig := List.mem_filter.mpr ⟨List.mem_append_right _ (List.mem_append_right _ (List.mem_append_right _ (List.mem_append_right _ (List.mem_of_getElem? (i := 110) rfl)))), rfl⟩
theorem u_co_yX9_force : Cond.code yX9_force cX9_force 4 (some .int) ∈ gBig := List.mem_filter.mpr ⟨List.mem_append_right _ (List.mem_append_right _ (List.mem_append_right _ (List.mem_append_right _ (List.mem_of_getElem? (i := 111) rfl)))), rfl⟩
theorem u_ml_RL_62 : Cond.methodLink RL 62 yX9_lift ∈ gBig := List.mem_filter.mpr ⟨List.mem_append_right _ (List.mem_append_right _ (List.mem_append_right _ (List.mem_append_right _ (List.mem_of_getElem? (i := 112) rfl)))), rfl⟩
theorem u_im_yX9_lift : Cond.instanceMethod yX9_lift ∈ gBig := List.mem_filter.mpr ⟨List.mem_append_right _ (List.mem_append_right _ (List.mem_append_right _ (List.mem_append_right _ (List.mem_of_getElem? (i := 113) rfl)))), rfl⟩
theorem u_se_yX9_lift : Cond.selects RX9 yX9_lift yX9_lift ∈ gBig := List.mem_filter.mpr ⟨List.mem_append_right _ (List.mem_append_right _ (List.mem_append_right _ (List.mem_append_right _ (List.mem_of_getElem? (i := 114) rfl)))), rfl⟩
theorem u_co_yX9_lift : Cond.code yX9_lift cX9_lift 3 (some .int) ∈ gBig := List.mem_filter.mpr ⟨List.mem_append_right _ (List.mem_append_right _ (List.mem_append_right _ (List.mem_append_right _ (List.mem_of_getElem? (i := 115) rfl)))), rfl⟩
theorem u_ml_RL_66 : Cond.methodLink RL 66 yX9_turn ∈ gBig := List.mem_filter.mpr ⟨List.mem_append_right _ (List.mem_append_right _ (List.mem_append_right _ (List.mem_append_right _ (List.mem_of_getElem? (i := 116) rfl)))), rfl⟩
theorem u_im_yX9_turn : Cond.instanceMethod yX9_turn ∈ gBig := List.mem_filter.mpr ⟨List.mem_append_right _ (List.mem_append_right _ (List.mem_append_right _ (List.mem_append_right _ (List.mem_of_getElem? (i := 117) rfl)))), rfl⟩
theorem u_se_yX9_turn : Cond.selects RX9 yX9_turn yX9_turn ∈ gBig := List.mem_filter.mpr ⟨List.mem_append_right _ (List.mem_append_right _ (List.mem_append_right _ (List.mem_append_right _ (List.mem_of_getElem? (i := 118) rfl)))), rfl⟩
theorem u_co_yX9_turn : Cond.code yX9_turn cX9_turn 3 (some .int) ∈ gBig := List.mem_filter.mpr ⟨List.mem_append_right _ (List.mem_append_right _ (List.mem_append_right _ (List.mem_append_right _ (List.mem_of_getElem? (i := 119) rfl)))), rfl⟩
theorem u_ml_RL_70 : Cond.methodLink RL 70 yX9_at ∈ gBig := List.mem_filter.mpr ⟨List.mem_append_right _ (List.mem_append_right _ (List.mem_append_right _ (List.mem_append_right _ (List.mem_of_getElem? (i := 120) rfl)))), rfl⟩
theorem u_im_yX9_at : Cond.instanceMethod yX9_at ∈ gBig := List.mem_filter.mpr ⟨List.mem_append_right _ (List.mem_append_right _ (List.mem_append_right _ (List.mem_append_right _ (List.mem_of_getElem? (i := 121) rfl)))), rfl⟩
theorem u_se_yX9_at : Cond.selects RX9 yX9_at yX9_at ∈ gBig := List.mem_filter.mpr ⟨List.mem_append_right _ (List.mem_append_right _ (List.mem_append_right _ (List.mem_append_right _ (List.mem_of_getElem? (i := 122) rfl)))), rfl⟩
theorem u_co_yX9_at : Cond.code yX9_at cX9_at 3 (some .int) ∈ gBig := List.mem_filter.mpr ⟨List.mem_append_right _ (List.mem_append_right _ (List.mem_append_right _ (List.mem_append_right _ (List.mem_of_getElem? (i := 123) rfl)))), rfl⟩
theorem u_ml_RL_74 : Cond.methodLink RL 74 yX9_reason ∈ gBig := List.mem_filter.mpr ⟨List.mem_append_right _ (List.mem_append_right _ (List.mem_append_right _ (List.mem_append_right _ (List.mem_of_getElem? (i := 124) rfl)))), rfl⟩
theorem u_im_yX9_reason : Cond.instanceMethod yX9_reason ∈ gBig := List.mem_filter.mpr ⟨List.mem_append_right _ (List.mem_append_right _ (List.mem_append_right _ (List.mem_append_right _ (List.mem_of_getElem? (i := 125) rfl)))), rfl⟩
theorem u_se_yX9_reason : Cond.selects RX9 yX9_reason yX9_reason ∈ gBig := List.mem_filter.mpr ⟨List.mem_append_right _ (List.mem_append_right _ (List.mem_append_right _ (List.mem_append_right _ (List.mem_of_getElem? (i := 126) rfl)))), rfl⟩
theorem u_co_yX9_reason : Cond.code yX9_reason cX9_reason 5 (some .int) ∈ gBig := List.mem_filter.mpr ⟨List.mem_append_right _ (List.mem_append_right _ (List.mem_append_right _ (List.mem_append_right _ (List.mem_of_getElem? (i := 127) rfl)))), rfl⟩
theorem u_ml_RL_78 : Cond.methodLink RL 78 yX9_ways ∈ gBig := List.mem_filter.mpr ⟨List.mem_append_right _ (List.mem_append_right _ (List.mem_append_right _ (List.mem_append_right _ (List.mem_of_getElem? (i := 128) rfl)))), rfl⟩
theorem u_im_yX9_ways : Cond.instanceMethod yX9_ways ∈ gBig := List.mem_filter.mpr ⟨List.mem_append_right _ (List.mem_append_right _ (List.mem_append_right _ (List.mem_append_right _ (List.mem_of_getElem? (i := 129) rfl)))), rfl⟩
theorem u_se_yX9_ways : Cond.selects RX9 yX9_ways yX9_ways ∈ gBig := List.mem_filter.mpr ⟨List.mem_append_right _ (List.mem_append_right _ (List.mem_append_right _ (List.mem_append_right _ (List.mem_of_getElem? (i := 130) rfl)))), rfl⟩
theorem u_co_yX9_ways : Cond.code yX9_ways cX9_ways 6 (some .int) ∈ gBig := List.mem_filter.mpr ⟨List.mem_append_right _ (List.mem_append_right _ (List.mem_append_right _ (List.mem_append_right _ (List.mem_of_getElem? (i := 131) rfl)))), rfl⟩
theorem u_ml_RL_82 : Cond.methodLink RL 82 yX9_bestFor ∈ gBig := List.mem_filter.mpr ⟨List.mem_append_right _ (List.mem_append_right _ (List.mem_append_right _ (List.mem_append_right _ (List.mem_of_getElem? (i := 132) rfl)))), rfl⟩
theorem u_im_yX9_bestFor : Cond.instanceMethod yX9_bestFor ∈ gBig := List.mem_filter.mpr ⟨List.mem_append_right _ (List.mem_append_right _ (List.mem_append_right _ (List.mem_append_right _ (List.mem_of_getElem? (i := 133) rfl)))), rfl⟩
theorem u_se_yX9_bestFor : Cond.selects RX9 yX9_bestFor yX9_bestFor ∈ gBig := List.mem_filter.mpr ⟨List.mem_append_right _ (List.mem_append_right _ (List.mem_append_right _ (List.mem_append_right _ (List.mem_of_getElem? (i := 134) rfl)))), rfl⟩
theorem u_co_yX9_bestFor : Cond.code yX9_bestFor cX9_bestFor 3 (some .int) ∈ gBig := List.mem_filter.mpr ⟨List.mem_append_right _ (List.mem_append_right _ (List.mem_append_right _ (List.mem_append_right _ (List.mem_of_getElem? (i := 135) rfl)))), rfl⟩
theorem u_ml_RL_86 : Cond.methodLink RL 86 yX9_fill ∈ gBig := List.mem_filter.mpr ⟨List.mem_append_right _ (List.mem_append_right _ (List.mem_append_right _ (List.mem_append_right _ (List.mem_of_getElem? (i := 140) rfl)))), rfl⟩
theorem u_im_yX9_fill : Cond.instanceMethod yX9_fill ∈ gBig := List.mem_filter.mpr ⟨List.mem_append_right _ (List.mem_append_right _ (List.mem_append_right _ (List.mem_append_right _ (List.mem_of_getElem? (i := 141) rfl)))), rfl⟩
theorem u_se_yX9_fill : Cond.selects RX9 yX9_fill yX9_fill ∈ gBig := List.mem_filter.mpr ⟨List.mem_append_right _ (List.mem_append_right _ (List.mem_append_right _ (List.mem_append_right _ (List.mem_of_getElem? (i := 142) rfl)))), rfl⟩
theorem u_co_yX9_fill : Cond.code yX9_fill cX9_fill 4 (some .int) ∈ gBig := List.mem_filter.mpr ⟨List.mem_append_right _ (List.mem_append_right _ (List.mem_append_right _ (List.mem_append_right _ (List.mem_of_getElem? (i := 143) rfl)))), rfl⟩
theorem u_ml_RL_90 : Cond.methodLink RL 90 yX9_member ∈ gBig := List.mem_filter.mpr ⟨List.mem_append_right _ (List.mem_append_right _ (List.mem_append_right _ (List.mem_append_right _ (List.mem_of_getElem? (i := 144) rfl)))), rfl⟩
theorem u_im_yX9_member : Cond.instanceMethod yX9_member ∈ gBig := List.mem_filter.mpr ⟨List.mem_append_right _ (List.mem_append_right _ (List.mem_append_right _ (List.mem_append_right _ (List.mem_of_getElem? (i := 145) rfl)))), rfl⟩
theorem u_se_yX9_member : Cond.selects RX9 yX9_member yX9_member ∈ gBig := List.mem_filter.mpr ⟨List.mem_append_right _ (List.mem_append_right _ (List.mem_append_right _ (List.mem_append_right _ (List.mem_of_getElem? (i := 146) rfl)))), rfl⟩
theorem u_co_yX9_member : Cond.code yX9_member cX9_member 5 (some .int) ∈ gBig := List.mem_filter.mpr ⟨List.mem_append_right _ (List.mem_append_right _ (List.mem_append_right _ (List.mem_append_right _ (List.mem_of_getElem? (i := 147) rfl)))), rfl⟩
theorem u_ml_RL_94 : Cond.methodLink RL 94 yX9_canFill ∈ gBig := List.mem_filter.mpr ⟨List.mem_append_right _ (List.mem_append_right _ (List.mem_append_right _ (List.mem_append_right _ (List.mem_of_getElem? (i := 148) rfl)))), rfl⟩
theorem u_im_yX9_canFill : Cond.instanceMethod yX9_canFill ∈ gBig := List.mem_filter.mpr ⟨List.mem_append_right _ (List.mem_append_right _ (List.mem_append_right _ (List.mem_append_right _ (List.mem_of_getElem? (i := 149) rfl)))), rfl⟩
theorem u_se_yX9_canFill : Cond.selects RX9 yX9_canFill yX9_canFill ∈ gBig := List.mem_filter.mpr ⟨List.mem_append_right _ (List.mem_append_right _ (List.mem_append_right _ (List.mem_append_right _ (List.mem_of_getElem? (i := 150) rfl)))), rfl⟩
theorem u_co_yX9_canFill : Cond.code yX9_canFill cX9_canFill 3 (some .int) ∈ gBig := List.mem_filter.mpr ⟨List.mem_append_right _ (List.mem_append_right _ (List.mem_append_right _ (List.mem_append_right _ (List.mem_of_getElem? (i := 151) rfl)))), rfl⟩
theorem u_ml_RL_98 : Cond.methodLink RL 98 yX9_type ∈ gBig := List.mem_filter.mpr ⟨List.mem_append_right _ (List.mem_append_right _ (List.mem_append_right _ (List.mem_append_right _ (List.mem_of_getElem? (i := 156) rfl)))), rfl⟩
theorem u_im_yX9_type : Cond.instanceMethod yX9_type ∈ gBig := List.mem_filter.mpr ⟨List.mem_append_right _ (List.mem_append_right _ (List.mem_append_right _ (List.mem_append_right _ (List.mem_of_getElem? (i := 157) rfl)))), rfl⟩
theorem u_se_yX9_type : Cond.selects RX9 yX9_type yX9_type ∈ gBig := List.mem_filter.mpr ⟨List.mem_append_right _ (List.mem_append_right _ (List.mem_append_right _ (List.mem_append_right _ (List.mem_of_getElem? (i := 158) rfl)))), rfl⟩
theorem u_co_yX9_type : Cond.code yX9_type cX9_type 2 (some .int) ∈ gBig := List.mem_filter.mpr ⟨List.mem_append_right _ (List.mem_append_right _ (List.mem_append_right _ (List.mem_append_right _ (List.mem_of_getElem? (i := 159) rfl)))), rfl⟩
theorem u_ml_RL_102 : Cond.methodLink RL 102 yX9_clearText ∈ gBig := List.mem_filter.mpr ⟨List.mem_append_right _ (List.mem_append_right _ (List.mem_append_right _ (List.mem_append_right _ (List.mem_of_getElem? (i := 160) rfl)))), rfl⟩
theorem u_im_yX9_clearText : Cond.instanceMethod yX9_clearText ∈ gBig := List.mem_filter.mpr ⟨List.mem_append_right _ (List.mem_append_right _ (List.mem_append_right _ (List.mem_append_right _ (List.mem_of_getElem? (i := 161) rfl)))), rfl⟩
theorem u_se_yX9_clearText : Cond.selects RX9 yX9_clearText yX9_clearText ∈ gBig := List.mem_filter.mpr ⟨List.mem_append_right _ (List.mem_append_right _ (List.mem_append_right _ (List.mem_append_right _ (List.mem_of_getElem? (i := 162) rfl)))), rfl⟩
theorem u_co_yX9_clearText : Cond.code yX9_clearText cX9_clearText 2 (some .int) ∈ gBig := List.mem_filter.mpr ⟨List.mem_append_right _ (List.mem_append_right _ (List.mem_append_right _ (List.mem_append_right _ (List.mem_of_getElem? (i := 163) rfl)))), rfl⟩
theorem u_ml_RL_106 : Cond.methodLink RL 106 yX9_fault ∈ gBig := List.mem_filter.mpr ⟨List.mem_append_right _ (List.mem_append_right _ (List.mem_append_right _ (List.mem_append_right _ (List.mem_of_getElem? (i := 164) rfl)))), rfl⟩
theorem u_la_X0_0 : Cond.laysFinal RX0 "TornPages$Desk" "scraps" "LTornPages$Scraps;" ∈ gBig := List.mem_filter.mpr ⟨List.mem_append_right _ (List.mem_append_left _ (List.mem_of_getElem? (i := 102) rfl)), rfl⟩
theorem u_la_X0_1 : Cond.laysFinal RX0 "TornPages$Desk" "page" "LTornPages$Page;" ∈ gBig := List.mem_filter.mpr ⟨List.mem_append_right _ (List.mem_append_left _ (List.mem_of_getElem? (i := 104) rfl)), rfl⟩
theorem u_la_X1_0 : Cond.laysFinal RX1 "TornPages$Draft" "profiles" "LTornPages$Row;" ∈ gBig := List.mem_filter.mpr ⟨List.mem_append_right _ (List.mem_append_left _ (List.mem_of_getElem? (i := 160) rfl)), rfl⟩
theorem u_la_X1_1 : Cond.laysFinal RX1 "TornPages$Draft" "lines" "LTornPages$Row;" ∈ gBig := List.mem_filter.mpr ⟨List.mem_append_right _ (List.mem_append_left _ (List.mem_of_getElem? (i := 162) rfl)), rfl⟩
theorem u_la_X1_2 : Cond.lays RX1 "TornPages$Draft" "kind" "I" ∈ gBig := List.mem_filter.mpr ⟨List.mem_append_right _ (List.mem_append_left _ (List.mem_of_getElem? (i := 164) rfl)), rfl⟩
theorem u_la_X2_0 : Cond.laysFinal RX2 "TornPages$Groups" "lowest" "LTornPages$Row;" ∈ gBig := List.mem_filter.mpr ⟨List.mem_append_right _ (List.mem_append_left _ (List.mem_of_getElem? (i := 136) rfl)), rfl⟩
theorem u_la_X2_1 : Cond.lays RX2 "TornPages$Groups" "scraps" "I" ∈ gBig := List.mem_filter.mpr ⟨List.mem_append_right _ (List.mem_append_left _ (List.mem_of_getElem? (i := 138) rfl)), rfl⟩
theorem u_la_X3_0 : Cond.laysFinal RX3 "TornPages$History" "states" "[LTornPages$Desk;" ∈ gBig := List.mem_filter.mpr ⟨List.mem_append_right _ (List.mem_append_left _ (List.mem_of_getElem? (i := 119) rfl)), rfl⟩
theorem u_la_X3_1 : Cond.lays RX3 "TornPages$History" "oldest" "I" ∈ gBig := List.mem_filter.mpr ⟨List.mem_append_right _ (List.mem_append_left _ (List.mem_of_getElem? (i := 121) rfl)), rfl⟩
theorem u_la_X3_2 : Cond.lays RX3 "TornPages$History" "size" "I" ∈ gBig := List.mem_filter.mpr ⟨List.mem_append_right _ (List.mem_append_left _ (List.mem_of_getElem? (i := 123) rfl)), rfl⟩
theorem u_la_X4_0 : Cond.laysFinal RX4 "TornPages$Page" "places" "LTornPages$Row;" ∈ gBig := List.mem_filter.mpr ⟨List.mem_append_right _ (List.mem_append_left _ (List.mem_of_getElem? (i := 85) rfl)), rfl⟩
theorem u_la_X4_1 : Cond.laysFinal RX4 "TornPages$Page" "orientations" "LTornPages$Row;" ∈ gBig := List.mem_filter.mpr ⟨List.mem_append_right _ (List.mem_append_left _ (List.mem_of_getElem? (i := 87) rfl)), rfl⟩
theorem u_la_X4_2 : Cond.laysFinal RX4 "TornPages$Page" "lying" "LTornPages$Row;" ∈ gBig := List.mem_filter.mpr ⟨List.mem_append_right _ (List.mem_append_left _ (List.mem_of_getElem? (i := 89) rfl)), rfl⟩
theorem u_la_X4_3 : Cond.lays RX4 "TornPages$Page" "width" "I" ∈ gBig := List.mem_filter.mpr ⟨List.mem_append_right _ (List.mem_append_left _ (List.mem_of_getElem? (i := 91) rfl)), rfl⟩
theorem u_la_X4_4 : Cond.lays RX4 "TornPages$Page" "height" "I" ∈ gBig := List.mem_filter.mpr ⟨List.mem_append_right _ (List.mem_append_left _ (List.mem_of_getElem? (i := 93) rfl)), rfl⟩
theorem u_la_X5_0 : Cond.laysFinal RX5 "TornPages$Row" "numbers" "[I" ∈ gBig := List.mem_filter.mpr ⟨List.mem_append_right _ (List.mem_append_left _ (List.mem_of_getElem? (i := 44) rfl)), rfl⟩
theorem u_la_X6_0 : Cond.laysFinal RX6 "TornPages$Scraps" "kinds" "LTornPages$Row;" ∈ gBig := List.mem_filter.mpr ⟨List.mem_append_right _ (List.mem_append_left _ (List.mem_of_getElem? (i := 52) rfl)), rfl⟩
theorem u_la_X6_1 : Cond.laysFinal RX6 "TornPages$Scraps" "profiles" "LTornPages$Row;" ∈ gBig := List.mem_filter.mpr ⟨List.mem_append_right _ (List.mem_append_left _ (List.mem_of_getElem? (i := 54) rfl)), rfl⟩
theorem u_la_X6_2 : Cond.laysFinal RX6 "TornPages$Scraps" "lines" "LTornPages$Row;" ∈ gBig := List.mem_filter.mpr ⟨List.mem_append_right _ (List.mem_append_left _ (List.mem_of_getElem? (i := 56) rfl)), rfl⟩
theorem u_la_X6_3 : Cond.lays RX6 "TornPages$Scraps" "size" "I" ∈ gBig := List.mem_filter.mpr ⟨List.mem_append_right _ (List.mem_append_left _ (List.mem_of_getElem? (i := 58) rfl)), rfl⟩
theorem u_la_X7_0 : Cond.laysFinal RX7 "TornPages$Text" "signs" "LTornPages$Row;" ∈ gBig := List.mem_filter.mpr ⟨List.mem_append_right _ (List.mem_append_left _ (List.mem_of_getElem? (i := 172) rfl)), rfl⟩
theorem u_la_X7_1 : Cond.laysFinal RX7 "TornPages$Text" "draft" "LTornPages$Draft;" ∈ gBig := List.mem_filter.mpr ⟨List.mem_append_right _ (List.mem_append_left _ (List.mem_of_getElem? (i := 174) rfl)), rfl⟩
theorem u_la_X7_2 : Cond.lays RX7 "TornPages$Text" "length" "I" ∈ gBig := List.mem_filter.mpr ⟨List.mem_append_right _ (List.mem_append_left _ (List.mem_of_getElem? (i := 176) rfl)), rfl⟩
theorem u_la_X7_3 : Cond.lays RX7 "TornPages$Text" "position" "I" ∈ gBig := List.mem_filter.mpr ⟨List.mem_append_right _ (List.mem_append_left _ (List.mem_of_getElem? (i := 178) rfl)), rfl⟩
theorem u_la_X7_4 : Cond.lays RX7 "TornPages$Text" "sound" "Z" ∈ gBig := List.mem_filter.mpr ⟨List.mem_append_right _ (List.mem_append_left _ (List.mem_of_getElem? (i := 180) rfl)), rfl⟩
theorem u_la_X8_0 : Cond.laysFinal RX8 "TornPages" "desk" "LTornPages$Desk;" ∈ gBig := List.mem_filter.mpr ⟨List.mem_append_right _ (List.mem_append_left _ (List.mem_of_getElem? (i := 191) rfl)), rfl⟩
theorem u_la_X8_1 : Cond.laysFinal RX8 "TornPages" "trial" "LTornPages$Desk;" ∈ gBig := List.mem_filter.mpr ⟨List.mem_append_right _ (List.mem_append_left _ (List.mem_of_getElem? (i := 193) rfl)), rfl⟩
theorem u_la_X8_2 : Cond.laysFinal RX8 "TornPages" "history" "LTornPages$History;" ∈ gBig := List.mem_filter.mpr ⟨List.mem_append_right _ (List.mem_append_left _ (List.mem_of_getElem? (i := 195) rfl)), rfl⟩
theorem u_la_X8_3 : Cond.laysFinal RX8 "TornPages" "groups" "LTornPages$Groups;" ∈ gBig := List.mem_filter.mpr ⟨List.mem_append_right _ (List.mem_append_left _ (List.mem_of_getElem? (i := 197) rfl)), rfl⟩
theorem u_la_X8_4 : Cond.laysFinal RX8 "TornPages" "text" "LTornPages$Text;" ∈ gBig := List.mem_filter.mpr ⟨List.mem_append_right _ (List.mem_append_left _ (List.mem_of_getElem? (i := 199) rfl)), rfl⟩
theorem u_la_X8_5 : Cond.laysFinal RX8 "TornPages" "draft" "LTornPages$Draft;" ∈ gBig := List.mem_filter.mpr ⟨List.mem_append_right _ (List.mem_append_left _ (List.mem_of_getElem? (i := 201) rfl)), rfl⟩
theorem u_la_X9_0 : Cond.laysFinal RX9 "TornPagesModel" "d" "[I" ∈ gBig := List.mem_filter.mpr ⟨List.mem_append_right _ (List.mem_append_right _ (List.mem_append_right _ (List.mem_append_left _ (List.mem_of_getElem? (i := 192) rfl)))), rfl⟩
theorem u_la_X9_1 : Cond.laysFinal RX9 "TornPagesModel" "was" "[I" ∈ gBig := List.mem_filter.mpr ⟨List.mem_append_right _ (List.mem_append_right _ (List.mem_append_right _ (List.mem_append_left _ (List.mem_of_getElem? (i := 194) rfl)))), rfl⟩
theorem u_la_X9_2 : Cond.lays RX9 "TornPagesModel" "states" "I" ∈ gBig := List.mem_filter.mpr ⟨List.mem_append_right _ (List.mem_append_right _ (List.mem_append_right _ (List.mem_append_left _ (List.mem_of_getElem? (i := 196) rfl)))), rfl⟩
theorem u_la_X9_3 : Cond.laysFinal RX9 "TornPagesModel" "text" "[C" ∈ gBig := List.mem_filter.mpr ⟨List.mem_append_right _ (List.mem_append_right _ (List.mem_append_right _ (List.mem_append_left _ (List.mem_of_getElem? (i := 198) rfl)))), rfl⟩
theorem u_la_X9_4 : Cond.lays RX9 "TornPagesModel" "typed" "I" ∈ gBig := List.mem_filter.mpr ⟨List.mem_append_right _ (List.mem_append_right _ (List.mem_append_right _ (List.mem_append_left _ (List.mem_of_getElem? (i := 200) rfl)))), rfl⟩
theorem u_la_X9_5 : Cond.laysFinal RX9 "TornPagesModel" "edges" "[I" ∈ gBig := List.mem_filter.mpr ⟨List.mem_append_right _ (List.mem_append_right _ (List.mem_append_right _ (List.mem_append_left _ (List.mem_of_getElem? (i := 202) rfl)))), rfl⟩
theorem u_la_X9_6 : Cond.laysFinal RX9 "TornPagesModel" "lines" "[I" ∈ gBig := List.mem_filter.mpr ⟨List.mem_append_right _ (List.mem_append_right _ (List.mem_append_right _ (List.mem_append_left _ (List.mem_of_getElem? (i := 204) rfl)))), rfl⟩
theorem u_la_X9_7 : Cond.laysFinal RX9 "TornPagesModel" "read" "[I" ∈ gBig := List.mem_filter.mpr ⟨List.mem_append_right _ (List.mem_append_right _ (List.mem_append_right _ (List.mem_append_left _ (List.mem_of_getElem? (i := 206) rfl)))), rfl⟩
theorem u_la_X9_8 : Cond.laysFinal RX9 "TornPagesModel" "group" "[I" ∈ gBig := List.mem_filter.mpr ⟨List.mem_append_right _ (List.mem_append_right _ (List.mem_append_right _ (List.mem_append_left _ (List.mem_of_getElem? (i := 208) rfl)))), rfl⟩
theorem u_la_X9_9 : Cond.lays RX9 "TornPagesModel" "groups" "I" ∈ gBig := List.mem_filter.mpr ⟨List.mem_append_right _ (List.mem_append_right _ (List.mem_append_right _ (List.mem_append_left _ (List.mem_of_getElem? (i := 210) rfl)))), rfl⟩
theorem u_la_X9_10 : Cond.laysFinal RX9 "TornPagesModel" "tried" "[I" ∈ gBig := List.mem_filter.mpr ⟨List.mem_append_right _ (List.mem_append_right _ (List.mem_append_right _ (List.mem_append_left _ (List.mem_of_getElem? (i := 212) rfl)))), rfl⟩
theorem u_la_X9_11 : Cond.laysFinal RX9 "TornPagesModel" "aside" "[I" ∈ gBig := List.mem_filter.mpr ⟨List.mem_append_right _ (List.mem_append_right _ (List.mem_append_right _ (List.mem_append_left _ (List.mem_of_getElem? (i := 214) rfl)))), rfl⟩
theorem inB0 : ∀ w ∈ wsX00, w ∈ gBig := (show ∀ w ∈ ([Cond.laysFinal RX0 "TornPages$Desk" "scraps" "LTornPages$Scraps;", Cond.laysFinal RX0 "TornPages$Desk" "page" "LTornPages$Page;"] : List Cond), w ∈ gBig from List.forall_mem_cons.mpr ⟨u_la_X0_0, List.forall_mem_cons.mpr ⟨u_la_X0_1, fun _ h => absurd h List.not_mem_nil⟩⟩)
theorem inB1 : ∀ w ∈ wsX10, w ∈ gBig := (show ∀ w ∈ ([Cond.laysFinal RX1 "TornPages$Draft" "profiles" "LTornPages$Row;", Cond.laysFinal RX1 "TornPages$Draft" "lines" "LTornPages$Row;", Cond.lays RX1 "TornPages$Draft" "kind" "I"] : List Cond), w ∈ gBig from List.forall_mem_cons.mpr ⟨u_la_X1_0, List.forall_mem_cons.mpr ⟨u_la_X1_1, List.forall_mem_cons.mpr ⟨u_la_X1_2, fun _ h => absurd h List.not_mem_nil⟩⟩⟩)
theorem inB2 : ∀ w ∈ wsX20, w ∈ gBig := (show ∀ w ∈ ([Cond.laysFinal RX2 "TornPages$Groups" "lowest" "LTornPages$Row;", Cond.lays RX2 "TornPages$Groups" "scraps" "I"] : List Cond), w ∈ gBig from List.forall_mem_cons.mpr ⟨u_la_X2_0, List.forall_mem_cons.mpr ⟨u_la_X2_1, fun _ h => absurd h List.not_mem_nil⟩⟩)
theorem inB3 : ∀ w ∈ wsX30, w ∈ gBig := (show ∀ w ∈ ([Cond.laysFinal RX3 "TornPages$History" "states" "[LTornPages$Desk;", Cond.lays RX3 "TornPages$History" "oldest" "I", Cond.lays RX3 "TornPages$History" "size" "I"] : List Cond), w ∈ gBig from List.forall_mem_cons.mpr ⟨u_la_X3_0, List.forall_mem_cons.mpr ⟨u_la_X3_1, List.forall_mem_cons.mpr ⟨u_la_X3_2, fun _ h => absurd h List.not_mem_nil⟩⟩⟩)
theorem inB4 : ∀ w ∈ wsX40, w ∈ gBig := (show ∀ w ∈ ([Cond.laysFinal RX4 "TornPages$Page" "places" "LTornPages$Row;", Cond.laysFinal RX4 "TornPages$Page" "orientations" "LTornPages$Row;", Cond.laysFinal RX4 "TornPages$Page" "lying" "LTornPages$Row;", Cond.lays RX4 "TornPages$Page" "width" "I", Cond.lays RX4 "TornPages$Page" "height" "I"] : List Cond), w ∈ gBig from List.forall_mem_cons.mpr ⟨u_la_X4_0, List.forall_mem_cons.mpr ⟨u_la_X4_1, List.forall_mem_cons.mpr ⟨u_la_X4_2, List.forall_mem_cons.mpr ⟨u_la_X4_3, List.forall_mem_cons.mpr ⟨u_la_X4_4, fun _ h => absurd h List.not_mem_nil⟩⟩⟩⟩⟩)
theorem inB5 : ∀ w ∈ wsX50, w ∈ gBig := (show ∀ w ∈ ([Cond.laysFinal RX5 "TornPages$Row" "numbers" "[I"] : List Cond), w ∈ gBig from List.forall_mem_cons.mpr ⟨u_la_X5_0, fun _ h => absurd h List.not_mem_nil⟩)
theorem inB6 : ∀ w ∈ wsX60, w ∈ gBig := (show ∀ w ∈ ([Cond.laysFinal RX6 "TornPages$Scraps" "kinds" "LTornPages$Row;", Cond.laysFinal RX6 "TornPages$Scraps" "profiles" "LTornPages$Row;", Cond.laysFinal RX6 "TornPages$Scraps" "lines" "LTornPages$Row;", Cond.lays RX6 "TornPages$Scraps" "size" "I"] : List Cond), w ∈ gBig from List.forall_mem_cons.mpr ⟨u_la_X6_0, List.forall_mem_cons.mpr ⟨u_la_X6_1, List.forall_mem_cons.mpr ⟨u_la_X6_2, List.forall_mem_cons.mpr ⟨u_la_X6_3, fun _ h => absurd h List.not_mem_nil⟩⟩⟩⟩)
theorem inB7 : ∀ w ∈ wsX70, w ∈ gBig := (show ∀ w ∈ ([Cond.laysFinal RX7 "TornPages$Text" "signs" "LTornPages$Row;", Cond.laysFinal RX7 "TornPages$Text" "draft" "LTornPages$Draft;", Cond.lays RX7 "TornPages$Text" "length" "I", Cond.lays RX7 "TornPages$Text" "position" "I", Cond.lays RX7 "TornPages$Text" "sound" "Z"] : List Cond), w ∈ gBig from List.forall_mem_cons.mpr ⟨u_la_X7_0, List.forall_mem_cons.mpr ⟨u_la_X7_1, List.forall_mem_cons.mpr ⟨u_la_X7_2, List.forall_mem_cons.mpr ⟨u_la_X7_3, List.forall_mem_cons.mpr ⟨u_la_X7_4, fun _ h => absurd h List.not_mem_nil⟩⟩⟩⟩⟩)
theorem inB8 : ∀ w ∈ wsX80, w ∈ gBig := (show ∀ w ∈ ([Cond.laysFinal RX8 "TornPages" "desk" "LTornPages$Desk;", Cond.laysFinal RX8 "TornPages" "trial" "LTornPages$Desk;", Cond.laysFinal RX8 "TornPages" "history" "LTornPages$History;", Cond.laysFinal RX8 "TornPages" "groups" "LTornPages$Groups;", Cond.laysFinal RX8 "TornPages" "text" "LTornPages$Text;", Cond.laysFinal RX8 "TornPages" "draft" "LTornPages$Draft;"] : List Cond), w ∈ gBig from List.forall_mem_cons.mpr ⟨u_la_X8_0, List.forall_mem_cons.mpr ⟨u_la_X8_1, List.forall_mem_cons.mpr ⟨u_la_X8_2, List.forall_mem_cons.mpr ⟨u_la_X8_3, List.forall_mem_cons.mpr ⟨u_la_X8_4, List.forall_mem_cons.mpr ⟨u_la_X8_5, fun _ h => absurd h List.not_mem_nil⟩⟩⟩⟩⟩⟩)
theorem inB9 : ∀ w ∈ wsX90, w ∈ gBig := (show ∀ w ∈ ([Cond.laysFinal RX9 "TornPagesModel" "d" "[I", Cond.laysFinal RX9 "TornPagesModel" "was" "[I", Cond.lays RX9 "TornPagesModel" "states" "I", Cond.laysFinal RX9 "TornPagesModel" "text" "[C", Cond.lays RX9 "TornPagesModel" "typed" "I", Cond.laysFinal RX9 "TornPagesModel" "edges" "[I", Cond.laysFinal RX9 "TornPagesModel" "lines" "[I", Cond.laysFinal RX9 "TornPagesModel" "read" "[I", Cond.laysFinal RX9 "TornPagesModel" "group" "[I", Cond.lays RX9 "TornPagesModel" "groups" "I", Cond.laysFinal RX9 "TornPagesModel" "tried" "[I", Cond.laysFinal RX9 "TornPagesModel" "aside" "[I"] : List Cond), w ∈ gBig from List.forall_mem_cons.mpr ⟨u_la_X9_0, List.forall_mem_cons.mpr ⟨u_la_X9_1, List.forall_mem_cons.mpr ⟨u_la_X9_2, List.forall_mem_cons.mpr ⟨u_la_X9_3, List.forall_mem_cons.mpr ⟨u_la_X9_4, List.forall_mem_cons.mpr ⟨u_la_X9_5, List.forall_mem_cons.mpr ⟨u_la_X9_6, List.forall_mem_cons.mpr ⟨u_la_X9_7, List.forall_mem_cons.mpr ⟨u_la_X9_8, List.forall_mem_cons.mpr ⟨u_la_X9_9, List.forall_mem_cons.mpr ⟨u_la_X9_10, List.forall_mem_cons.mpr ⟨u_la_X9_11, fun _ h => absurd h List.not_mem_nil⟩⟩⟩⟩⟩⟩⟩⟩⟩⟩⟩⟩)
end
section
/-! ONE POOL OF CELLS BY NUMBER, ONE MEMORY OF INTS: what a state of the class and of the reference is.
A cell k stands at the address xN X + k; what ints it holds says the memory s k; references stand where they were made. -/
abbrev gM : Type := Nat → Nat → Int32
/-- a value gets a name; a reference that may be null -/
def gl {α β : Type} (a : α) (f : α → Option β) : Option β := f a
def go {α β : Type} (q : Option α) (a : β) (f : α → β) : β := match q with
  | none => a
  | some x => f x
/-- as many rounds as no loop needs -/
def gF : Nat := 1000000000000000000
abbrev gX : Type := va_G × (ClassId × ClassId × ClassId) × (Nat → Prop) × (Nat × Nat × Nat) × (Nat → Nat → Bool) × va_W
def xD (X : gX) : va_G := X.1
def xI (X : gX) : ClassId := X.2.1.1
def xC (X : gX) : ClassId := X.2.1.2.1
def xQ (X : gX) : ClassId := X.2.1.2.2
def xA (X : gX) : Nat → Prop := X.2.2.1
def xN (X : gX) : Nat := X.2.2.2.1.1
def xlo (X : gX) : Nat := X.2.2.2.1.2.1
def xhi (X : gX) : Nat := X.2.2.2.1.2.2
def xst (X : gX) : Nat → Nat → Bool := X.2.2.2.2.1
def xw (X : gX) : va_W := X.2.2.2.2.2
def xty (X : gX) : List (ClassId × FieldType) := [(xI X, .int), (xC X, .char), (xQ X, .object RX0)]
/-- a reference to the cell d further on, once it is set -/
def gref (X : gX) (k j d : Nat) : Value := if xst X k j = true then .ref (xN X + (k + d)) else .null
/-- what each cell is (0 to 9 an object of that class, 10 an int array, 11 a char array, 12 an array of desks), and how long its array is -/
def gkdL : List Nat := [8, 0, 6, 5, 10, 5, 10, 5, 10, 4, 5, 10, 5, 10, 5, 10, 0, 6, 5, 10, 5, 10, 5, 10, 4, 5, 10, 5, 10, 5, 10, 3, 12, 0, 6, 5, 10, 5, 10, 5, 10, 4, 5, 10, 5, 10, 5, 10, 0, 6, 5, 10, 5, 10, 5, 10, 4, 5, 10, 5, 10, 5, 10, 0, 6, 5, 10, 5, 10, 5, 10, 4, 5, 10, 5, 10, 5, 10, 0, 6, 5, 10, 5, 10, 5, 10, 4, 5, 10, 5, 10, 5, 10, 0, 6, 5, 10, 5, 10, 5, 10, 4, 5, 10, 5, 10, 5, 10, 2, 5, 10, 7, 5, 10, 1, 5, 10, 5, 10, 1, 5, 10, 5, 10, 9, 10, 10, 11, 10, 10, 10, 10, 10, 10]
def gkd (k : Nat) : Nat := gkdL.getD k 99
def glnL : List Nat := [0, 0, 0, 0, 12, 0, 384, 0, 384, 0, 0, 12, 0, 12, 0, 36, 0, 0, 0, 12, 0, 384, 0, 384, 0, 0, 12, 0, 12, 0, 36, 0, 5, 0, 0, 0, 12, 0, 384, 0, 384, 0, 0, 12, 0, 12, 0, 36, 0, 0, 0, 12, 0, 384, 0, 384, 0, 0, 12, 0, 12, 0, 36, 0, 0, 0, 12, 0, 384, 0, 384, 0, 0, 12, 0, 12, 0, 36, 0, 0, 0, 12, 0, 384, 0, 384, 0, 0, 12, 0, 12, 0, 36, 0, 0, 0, 12, 0, 384, 0, 384, 0, 0, 12, 0, 12, 0, 36, 0, 0, 12, 0, 0, 60, 0, 0, 4, 0, 4, 0, 0, 4, 0, 4, 0, 135, 675, 60, 4, 4, 9, 12, 6, 135]
def gln (k : Nat) : Nat := glnL.getD k 0
/-- what a cell holds -/
def gE (X : gX) (σ : gM) (k : Nat) : va_E := match gkd k with
  | 0 => .inr (0, [gref X k 0 1, gref X k 1 8])
  | 1 => .inr (1, [gref X k 0 1, gref X k 1 3, .int (σ k 2)])
  | 2 => .inr (2, [gref X k 0 1, .int (σ k 1)])
  | 3 => .inr (3, [gref X k 0 1, .int (σ k 1), .int (σ k 2)])
  | 4 => .inr (4, [gref X k 0 1, gref X k 1 3, gref X k 2 5, .int (σ k 3), .int (σ k 4)])
  | 5 => .inr (5, [gref X k 0 1])
  | 6 => .inr (6, [gref X k 0 1, gref X k 1 3, gref X k 2 5, .int (σ k 3)])
  | 7 => .inr (7, [gref X k 0 1, gref X k 1 3, .int (σ k 2), .int (σ k 3), .int (σ k 4)])
  | 8 => .inr (8, [gref X k 0 1, gref X k 1 16, gref X k 2 31, gref X k 3 108, gref X k 4 111, gref X k 5 119])
  | 9 => .inr (9, [gref X k 0 1, gref X k 1 2, .int (σ k 2), gref X k 3 3, .int (σ k 4), gref X k 5 4, gref X k 6 5, gref X k 7 6, gref X k 8 7, .int (σ k 9), gref X k 10 8, gref X k 11 9])
  | 10 => .inl (xI X, gln k, .inl (σ k))
  | 11 => .inl (xC X, gln k, .inl (σ k))
  | 12 => .inl (xQ X, gln k, .inr (.inr (.inr (.inr (fun j => if xst X k j = true then some (xN X + (k + (1 + 15 * j))) else none)))))
  | _ => .inl (xI X, 0, .inl (σ k))
theorem gE_0 {X : gX} {σ : gM} {k : Nat} (h : gkd k = 0) : gE X σ k = .inr (0, [gref X k 0 1, gref X k 1 8]) := by unfold gE; rw [h] <;> rfl
theorem gE_1 {X : gX} {σ : gM} {k : Nat} (h : gkd k = 1) : gE X σ k = .inr (1, [gref X k 0 1, gref X k 1 3, .int (σ k 2)]) := by unfold gE; rw [h] <;> rfl
theorem gE_2 {X : gX} {σ : gM} {k : Nat} (h : gkd k = 2) : gE X σ k = .inr (2, [gref X k 0 1, .int (σ k 1)]) := by unfold gE; rw [h] <;> rfl
theorem gE_3 {X : gX} {σ : gM} {k : Nat} (h : gkd k = 3) : gE X σ k = .inr (3, [gref X k 0 1, .int (σ k 1), .int (σ k 2)]) := by unfold gE; rw [h] <;> rfl
theorem gE_4 {X : gX} {σ : gM} {k : Nat} (h : gkd k = 4) : gE X σ k = .inr (4, [gref X k 0 1, gref X k 1 3, gref X k 2 5, .int (σ k 3), .int (σ k 4)]) := by unfold gE; rw [h] <;> rfl
theorem gE_5 {X : gX} {σ : gM} {k : Nat} (h : gkd k = 5) : gE X σ k = .inr (5, [gref X k 0 1]) := by unfold gE; rw [h] <;> rfl
theorem gE_6 {X : gX} {σ : gM} {k : Nat} (h : gkd k = 6) : gE X σ k = .inr (6, [gref X k 0 1, gref X k 1 3, gref X k 2 5, .int (σ k 3)]) := by unfold gE; rw [h] <;> rfl
theorem gE_7 {X : gX} {σ : gM} {k : Nat} (h : gkd k = 7) : gE X σ k = .inr (7, [gref X k 0 1, gref X k 1 3, .int (σ k 2), .int (σ k 3), .int (σ k 4)]) := by unfold gE; rw [h] <;> rfl
theorem gE_8 {X : gX} {σ : gM} {k : Nat} (h : gkd k = 8) : gE X σ k = .inr (8, [gref X k 0 1, gref X k 1 16, gref X k 2 31, gref X k 3 108, gref X k 4 111, gref X k 5 119]) := by unfold gE; rw [h] <;> rfl
theorem gE_9 {X : gX} {σ : gM} {k : Nat} (h : gkd k = 9) : gE X σ k = .inr (9, [gref X k 0 1, gref X k 1 2, .int (σ k 2), gref X k 3 3, .int (σ k 4), gref X k 5 4, gref X k 6 5, gref X k 7 6, gref X k 8 7, .int (σ k 9), gref X k 10 8, gref X k 11 9]) := by unfold gE; rw [h] <;> rfl
theorem gE_10 {X : gX} {σ : gM} {k : Nat} (h : gkd k = 10) : gE X σ k = .inl (xI X, gln k, .inl (σ k)) := by unfold gE; rw [h] <;> rfl
theorem gE_11 {X : gX} {σ : gM} {k : Nat} (h : gkd k = 11) : gE X σ k = .inl (xC X, gln k, .inl (σ k)) := by unfold gE; rw [h] <;> rfl
theorem gE_12 {X : gX} {σ : gM} {k : Nat} (h : gkd k = 12) : gE X σ k = .inl (xQ X, gln k, .inr (.inr (.inr (.inr (fun j => if xst X k j = true then some (xN X + (k + (1 + 15 * j))) else none))))) := by unfold gE; rw [h] <;> rfl
/-- an object that is made, with all that belongs to it -/
def gok5 (X : gX) (t : Nat) : Prop := (gkd t = 5 ∧ xlo X ≤ t ∧ t < xhi X) ∧ (xst X t 0 = true) ∧ ((gkd (t + 1) = 10 ∧ xlo X ≤ (t + 1) ∧ (t + 1) < xhi X))
def gok1 (X : gX) (t : Nat) : Prop := (gkd t = 1 ∧ xlo X ≤ t ∧ t < xhi X) ∧ (xst X t 0 = true ∧ xst X t 1 = true) ∧ (gok5 X (t + 1) ∧ gok5 X (t + 3))
def gok2 (X : gX) (t : Nat) : Prop := (gkd t = 2 ∧ xlo X ≤ t ∧ t < xhi X) ∧ (xst X t 0 = true) ∧ (gok5 X (t + 1))
def gok4 (X : gX) (t : Nat) : Prop := (gkd t = 4 ∧ xlo X ≤ t ∧ t < xhi X) ∧ (xst X t 0 = true ∧ xst X t 1 = true ∧ xst X t 2 = true) ∧ (gok5 X (t + 1) ∧ gok5 X (t + 3) ∧ gok5 X (t + 5))
def gok6 (X : gX) (t : Nat) : Prop := (gkd t = 6 ∧ xlo X ≤ t ∧ t < xhi X) ∧ (xst X t 0 = true ∧ xst X t 1 = true ∧ xst X t 2 = true) ∧ (gok5 X (t + 1) ∧ gok5 X (t + 3) ∧ gok5 X (t + 5))
def gok0 (X : gX) (t : Nat) : Prop := (gkd t = 0 ∧ xlo X ≤ t ∧ t < xhi X) ∧ (xst X t 0 = true ∧ xst X t 1 = true) ∧ (gok6 X (t + 1) ∧ gok4 X (t + 8))
def gok3 (X : gX) (t : Nat) : Prop := (gkd t = 3 ∧ xlo X ≤ t ∧ t < xhi X) ∧ (xst X t 0 = true) ∧ (((gkd (t + 1) = 12 ∧ xlo X ≤ (t + 1) ∧ (t + 1) < xhi X) ∧ (∀ j, j < gln (t + 1) → xst X (t + 1) j = true) ∧ ∀ j, j < gln (t + 1) → gok0 X ((t + 1) + (1 + 15 * j))))
def gok7 (X : gX) (t : Nat) : Prop := (gkd t = 7 ∧ xlo X ≤ t ∧ t < xhi X) ∧ (xst X t 0 = true ∧ xst X t 1 = true) ∧ (gok5 X (t + 1) ∧ gok1 X (t + 3))
def gok8 (X : gX) (t : Nat) : Prop := (gkd t = 8 ∧ xlo X ≤ t ∧ t < xhi X) ∧ (xst X t 0 = true ∧ xst X t 1 = true ∧ xst X t 2 = true ∧ xst X t 3 = true ∧ xst X t 4 = true ∧ xst X t 5 = true) ∧ (gok0 X (t + 1) ∧ gok0 X (t + 16) ∧ gok3 X (t + 31) ∧ gok2 X (t + 108) ∧ gok7 X (t + 111) ∧ gok1 X (t + 119))
def gok9 (X : gX) (t : Nat) : Prop := (gkd t = 9 ∧ xlo X ≤ t ∧ t < xhi X) ∧ (xst X t 0 = true ∧ xst X t 1 = true ∧ xst X t 3 = true ∧ xst X t 5 = true ∧ xst X t 6 = true ∧ xst X t 7 = true ∧ xst X t 8 = true ∧ xst X t 10 = true ∧ xst X t 11 = true) ∧ ((gkd (t + 1) = 10 ∧ xlo X ≤ (t + 1) ∧ (t + 1) < xhi X) ∧ (gkd (t + 2) = 10 ∧ xlo X ≤ (t + 2) ∧ (t + 2) < xhi X) ∧ (gkd (t + 3) = 11 ∧ xlo X ≤ (t + 3) ∧ (t + 3) < xhi X) ∧ (gkd (t + 4) = 10 ∧ xlo X ≤ (t + 4) ∧ (t + 4) < xhi X) ∧ (gkd (t + 5) = 10 ∧ xlo X ≤ (t + 5) ∧ (t + 5) < xhi X) ∧ (gkd (t + 6) = 10 ∧ xlo X ≤ (t + 6) ∧ (t + 6) < xhi X) ∧ (gkd (t + 7) = 10 ∧ xlo X ≤ (t + 7) ∧ (t + 7) < xhi X) ∧ (gkd (t + 8) = 10 ∧ xlo X ≤ (t + 8) ∧ (t + 8) < xhi X) ∧ (gkd (t + 9) = 10 ∧ xlo X ≤ (t + 9) ∧ (t + 9) < xhi X))
/-- the world as a list: other cells, and the pool -/
def gws (X : gX) (σ : gM) : va_W := xw X ++ (List.range (xhi X - xlo X)).map (fun i => (xN X + (xlo X + i), gE X σ (xlo X + i)))
theorem gws_at {X : gX} {σ : gM} {t : Nat} (h1 : xlo X ≤ t) (h2 : t < xhi X) : (gws X σ)[(xw X).length + (t - xlo X)]? = some (xN X + t, gE X σ t) := by
  unfold gws
  rw [List.getElem?_append_right (Nat.le_add_right _ _), Nat.add_sub_cancel_left, List.getElem?_map, List.getElem?_range (by omega)]
  show some (xN X + (xlo X + (t - xlo X)), gE X σ (xlo X + (t - xlo X))) = _
  rw [show xlo X + (t - xlo X) = t by omega]
theorem gws_set {X : gX} {σ σ' : gM} {t : Nat} {e : va_E} (h1 : xlo X ≤ t) (h2 : t < xhi X) (h : ∀ k, gE X σ' k = if k = t then e else gE X σ k) : (gws X σ).set ((xw X).length + (t - xlo X)) (xN X + t, e) = gws X σ' := by
  unfold gws
  rw [List.set_append_right _ _ (Nat.le_add_right _ _), Nat.add_sub_cancel_left]
  congr 1
  apply List.ext_getElem?
  intro i
  rw [List.getElem?_set, List.getElem?_map, List.getElem?_map, List.length_map, List.length_range]
  by_cases hi : i < xhi X - xlo X
  · rw [List.getElem?_range hi]
    show _ = some (xN X + (xlo X + i), gE X σ' (xlo X + i))
    rw [h]
    by_cases ht : t - xlo X = i
    · rw [if_pos ht, if_pos (by omega), if_pos (by omega)]
      rw [show xlo X + i = t by omega]
    · rw [if_neg ht, if_neg (by omega)]
      rfl
  · rw [List.getElem?_eq_none (by rw [List.length_range]; omega)]
    rw [if_neg (by omega)]
    rfl
/-- the memory after a write -/
def gset (σ : gM) (t : Nat) (f : Nat → Int32) : gM := fun k => if k = t then f else σ k
theorem gset_at {σ : gM} {t : Nat} {f : Nat → Int32} : gset σ t f t = f := if_pos rfl
theorem gset_ne {σ : gM} {t k : Nat} {f : Nat → Int32} (h : ¬ k = t) : gset σ t f k = σ k := if_neg h
theorem gE_ne {X : gX} {σ : gM} {t k : Nat} {f : Nat → Int32} (h : ¬ k = t) : gE X (gset σ t f) k = gE X σ k := by
  have e : gset σ t f k = σ k := gset_ne h
  unfold gE
  rw [e]
theorem gE_set {X : gX} {σ : gM} {t : Nat} {f : Nat → Int32} {e : va_E} (h : gE X (gset σ t f) t = e) (k : Nat) : gE X (gset σ t f) k = if k = t then e else gE X σ k := by
  by_cases hk : k = t
  · rw [if_pos hk, hk, h]
  · rw [if_neg hk, gE_ne hk]
/-- words of nest mates: they hold at every state of the run, each on its own -/
def gN (U : State) : Prop := (∀ q ∈ gNF, va_Nw (.fieldLinkNest q.1 q.2.1 q.2.2.1 q.2.2.2.1 q.2.2.2.2.1 q.2.2.2.2.2) U) ∧ (∀ q ∈ gNM, va_Nw (.methodLinkNest q.1 q.2.1 q.2.2.1 q.2.2.2) U) ∧ va_AO RX0 U
theorem gN.warm {s U : State} (h : gN s) (hW : s.WarmedH U.vm) : gN U := ⟨fun q hq => va_Nw.warmF hW (h.1 q hq), fun q hq => va_Nw.warmM hW (h.2.1 q hq), va_AO.moved hW.alike h.2.2⟩
theorem gN.blind {U : State} {g : JFrame} {mk : MethodId} {a : Array Value} (h : gN U) : gN (U.calling g mk a) := ⟨fun q hq => va_Nw.same rfl (u := U) rfl (h.1 q hq), fun q hq => va_Nw.same rfl (u := U) rfl (h.2.1 q hq), va_AO.moved (u := U) (Vm.Alike.refl U.vm) h.2.2⟩
theorem g_goodV {own C : String} {idx n : Nat} {y : MethodName} {bytes : ByteArray} {ret : Option FieldType} (h1 : Cond.methodLink own idx y ∈ gBig) (h2 : Cond.instanceMethod y ∈ gBig) (h3 : Cond.selects C y y ∈ gBig) (h4 : Cond.initialized C ∈ gBig) (h5 : Cond.code y bytes n ret ∈ gBig) : GoodIn gBig (wsV own idx C y (Cond.code y bytes n ret :: gBig)) := goodIn_big (fun w hw => by
  rcases List.mem_append.mp (show w ∈ ([.methodLink own idx y, .instanceMethod y, .selects C y y, .initialized C] : List Cond) ++ (Cond.code y bytes n ret :: gBig) from hw) with h | h
  · exact List.forall_mem_cons.mpr ⟨h1, List.forall_mem_cons.mpr ⟨h2, List.forall_mem_cons.mpr ⟨h3, List.forall_mem_cons.mpr ⟨h4, fun _ h => absurd h List.not_mem_nil⟩⟩⟩⟩ w h
  · exact List.forall_mem_cons.mpr ⟨h5, fun _ h => h⟩ w h)
theorem g_goodS {own : String} {idx n : Nat} {y : MethodName} {bytes : ByteArray} {ret : Option FieldType} (h1 : Cond.methodLink own idx y ∈ gBig) (h2 : Cond.static y ∈ gBig) (h4 : Cond.initialized y.cls ∈ gBig) (h5 : Cond.code y bytes n ret ∈ gBig) : GoodIn gBig (va_wsS own idx y (Cond.code y bytes n ret :: gBig)) := goodIn_big (fun w hw => by
  rcases List.mem_append.mp (show w ∈ ([.methodLink own idx y, .static y, .initialized y.cls] : List Cond) ++ (Cond.code y bytes n ret :: gBig) from hw) with h | h
  · exact List.forall_mem_cons.mpr ⟨h1, List.forall_mem_cons.mpr ⟨h2, List.forall_mem_cons.mpr ⟨h4, fun _ h => absurd h List.not_mem_nil⟩⟩⟩ w h
  · exact List.forall_mem_cons.mpr ⟨h5, fun _ h => h⟩ w h)
theorem g_let {α β : Type} {a : α} {f : α → Option β} {y : β} (h : gl a f = some y) : ∃ v, a = v ∧ f v = some y := ⟨a, rfl, h⟩
theorem g_let2 {α β : Type} {a v : α} {f : α → Option β} {y : β} (e : v = a) (h : gl a f = some y) : f v = some y := by rw [e]; exact h
theorem g_gon {α β : Type} {a : β} {f : α → β} {y : β} (h : go none a f = y) : a = y := h
theorem g_gos {α β : Type} {x : α} {a : β} {f : α → β} {y : β} (h : go (some x) a f = y) : f x = y := h
theorem g_lt {i : Int32} {n : Nat} (h : ¬ (i < 0 ∨ n ≤ i.toNatClampNeg)) : i.toNatClampNeg < n := Nat.not_le.mp fun q => h (Or.inr q)
/-- what a contract asks and gives -/
def gB (X : gX) (σ : gM) (U : State) : Prop := va_P (xD X) vwCl (gws X σ) U.heap ∧ va_K (xD X) vwCl (xty X) U ∧ va_D (xA X) (gws X σ) ∧ gN U
abbrev gPc (X : gX) (σ : gM) (av : List Value) : Array Value → State → Prop := va_Pc av (gB X σ)
abbrev gQi (X : gX) (σ : gM) (r : Int32) : Array Value → State → Outcome → State → Prop := va_Qi (fun (q : Int32) (_ : Unit) => q = r) (fun _ t => gB X σ t) (xA X)
abbrev gQv (X : gX) (σ : gM) : Array Value → State → Outcome → State → Prop := va_Qv (fun (_ : Unit) => True) (fun _ t => gB X σ t) (xA X)
abbrev gQr (X : gX) (σ : gM) (r : Option Nat) : Array Value → State → Outcome → State → Prop := va_Qq (fun (q : Option Nat) (_ : Unit) => q = r.map (fun k => xN X + k)) (fun _ t => gB X σ t) (xA X)
/-- what stands at a place of a walk: the machine's fixed facts, and the world -/
def gC (X : gX) (p : Program) (s : State) (m : MethodId) (args : Array Value) (c : Code) (cc : ByteArray) (nL : Nat) (own : String) : Prop := CallFix p m c cc nL s args gBig own ∧ va_K (xD X) vwCl (xty X) s ∧ gN s
def gG (X : gX) (σ : gM) (s : State) (H : Heap) (locs : List Loc) : Prop := va_P (xD X) vwCl (gws X σ) H ∧ va_D (xA X) (gws X σ) ∧ va_S (xA X) s.heap H locs
theorem g_blind {X : gX} {σ : gM} {av : List Value} : FrameBlind (gPc X σ av) := fun a U g mk q => ⟨q.1, q.2.1, va_K.moved (u := U) (U := U.calling g mk a) (Vm.Alike.refl U.vm) q.2.2.1, q.2.2.2.1, gN.blind q.2.2.2.2⟩
theorem g_it {α : Type} {c : Prop} [Decidable c] {A B : α} {y : α} (h : (if c then A else B) = y) (hc : c) : A = y := by rw [if_pos hc] at h; exact h
theorem g_if {α : Type} {c : Prop} [Decidable c] {A B : α} {y : α} (h : (if c then A else B) = y) (hc : ¬ c) : B = y := by rw [if_neg hc] at h; exact h
theorem g_chk {α : Type} {c : Prop} [Decidable c] {A : Option α} {y : α} (h : (if c then A else none) = some y) : c ∧ A = some y := by
  by_cases hc : c
  · rw [if_pos hc] at h; exact ⟨hc, h⟩
  · rw [if_neg hc] at h; cases h
theorem g_bind {α β : Type} {x : Option α} {f : α → Option β} {y : β} (h : x.bind f = some y) : ∃ v, x = some v ∧ f v = some y := by
  cases x with
  | none => cases h
  | some v => exact ⟨v, rfl, h⟩
theorem g_z {r : Int32} (h : r = 0 ∨ r = 1) : narrow .boolean (.int r) = .int r := by rcases h with rfl | rfl <;> rfl
theorem g_zf {r : Int32} (h : r = 0 ∨ r = 1) : fits .boolean (.int r) = true := by rcases h with rfl | rfl <;> rfl
section START
variable {l : Launch} {y : MethodName} {ws : List Cond} {rm : Room} {cc : ByteArray} {maxL : Nat} {own : String} {av : List Value} {X : gX} {σ σ' : gM}
theorem g_meti {ty : FieldType} {r : Int32} (hy : plainName y.cls = true) (hw : ws = Cond.code y cc maxL (some ty) :: gBig) (hcl : y.cls = own) (hav : (lg_sl av).length ≤ maxL)
    (body : ∀ {p : Program} {e : Env} {s : State} {m : MethodId} {args : Array Value} {below : List Frame} {meth : Method} {c : Code} {Q : State → Prop}, gC X p s m args c cc maxL own → gG X σ s s.heap [] →
      (∀ {pc : Nat} {H : Heap} {locs : List Loc} {ls : Array Slot}, ∀ {v : Int32} {σ2 : gM}, decode cc pc = .ok (.ireturn, 1) → narrow ty (.int v) = .int v → gG X σ2 s H locs → v = r ∧ σ2 = σ' → W p l e rm s m args below meth c H locs 0 0 Q (F0 m pc ls [.int v])) →
      ∀ ls : Array Slot, lv_has ls maxL (lv_args 0 av) → W p l e rm s m args below meth c s.heap [] 0 0 Q (F0 m 0 ls [])) :
    Met l y ws rm (gPc X σ av) (gQi X σ' r) 0 0 (xA X) := by
  refine Met.ofW (cc := cc) (maxL := maxL) (ret := some ty) hy hw ?_
  intro p e s m args below meth c s₁ B hml hv
  obtain ⟨rfl, hP, hK, hD, hN⟩ := hv
  have hown : s.vm.findClass own = some m.cls := by rw [← hcl]; exact findClass_of_methodNamed B.named
  have hlocks := B.notSynchronized
  rw [lg_entry_eq]
  refine body ⟨⟨B.exec, B.bytes, hml, hown, fun w h => atoms_spec (ws := ws) B.pre w (by rw [hw]; exact List.mem_cons_of_mem _ h)⟩, hK, hN⟩ ⟨hP, hD, va_S.rf⟩ ?_ _ (lv_entry av hav)
  intro pc H locs ls v σ2 hdg hn hG he
  obtain ⟨rfl, rfl⟩ := he
  exact W.zret (v := v) B.exec B.bytes B.returns hn (fun t ht hW => ⟨⟨_, (), rfl, rfl, by rw [ht]; exact hG.1, va_K.moved hW.alike hK, hG.2.1, hN.warm hW⟩, hG.2.2.F ht⟩) hG.2.2.2.2 hdg
theorem g_metv (hy : plainName y.cls = true) (hw : ws = Cond.code y cc maxL none :: gBig) (hcl : y.cls = own) (hav : (lg_sl av).length ≤ maxL)
    (body : ∀ {p : Program} {e : Env} {s : State} {m : MethodId} {args : Array Value} {below : List Frame} {meth : Method} {c : Code} {Q : State → Prop}, gC X p s m args c cc maxL own → gG X σ s s.heap [] →
      (∀ {pc : Nat} {H : Heap} {locs : List Loc} {ls : Array Slot}, ∀ {σ2 : gM}, decode cc pc = .ok (.return_, 1) → gG X σ2 s H locs → σ2 = σ' → W p l e rm s m args below meth c H locs 0 0 Q (F0 m pc ls [])) →
      ∀ ls : Array Slot, lv_has ls maxL (lv_args 0 av) → W p l e rm s m args below meth c s.heap [] 0 0 Q (F0 m 0 ls [])) :
    Met l y ws rm (gPc X σ av) (gQv X σ') 0 0 (xA X) := by
  refine Met.ofW (cc := cc) (maxL := maxL) (ret := none) hy hw ?_
  intro p e s m args below meth c s₁ B hml hv
  obtain ⟨rfl, hP, hK, hD, hN⟩ := hv
  have hown : s.vm.findClass own = some m.cls := by rw [← hcl]; exact findClass_of_methodNamed B.named
  have hlocks := B.notSynchronized
  rw [lg_entry_eq]
  refine body ⟨⟨B.exec, B.bytes, hml, hown, fun w h => atoms_spec (ws := ws) B.pre w (by rw [hw]; exact List.mem_cons_of_mem _ h)⟩, hK, hN⟩ ⟨hP, hD, va_S.rf⟩ ?_ _ (lv_entry av hav)
  intro pc H locs ls σ2 hdg hG he
  subst he
  exact W.vret B.exec B.bytes B.returns (fun t ht hW => ⟨⟨(), rfl, trivial, by rw [ht]; exact hG.1, va_K.moved hW.alike hK, hG.2.1, hN.warm hW⟩, hG.2.2.F ht⟩) hG.2.2.2.2 hdg
theorem g_metr {C : String} {r : Option Nat} (hy : plainName y.cls = true) (hw : ws = Cond.code y cc maxL (some (.object C)) :: gBig) (hcl : y.cls = own) (hav : (lg_sl av).length ≤ maxL)
    (body : ∀ {p : Program} {e : Env} {s : State} {m : MethodId} {args : Array Value} {below : List Frame} {meth : Method} {c : Code} {Q : State → Prop}, gC X p s m args c cc maxL own → gG X σ s s.heap [] →
      (∀ {pc : Nat} {H : Heap} {locs : List Loc} {ls : Array Slot}, ∀ {v : Option Nat} {σ2 : gM}, decode cc pc = .ok (.areturn, 1) → gG X σ2 s H locs → v = r ∧ σ2 = σ' → W p l e rm s m args below meth c H locs 0 0 Q (F0 m pc ls [va_rf (v.map (fun k => xN X + k))])) →
      ∀ ls : Array Slot, lv_has ls maxL (lv_args 0 av) → W p l e rm s m args below meth c s.heap [] 0 0 Q (F0 m 0 ls [])) :
    Met l y ws rm (gPc X σ av) (gQr X σ' r) 0 0 (xA X) := by
  refine Met.ofW (cc := cc) (maxL := maxL) (ret := some (.object C)) hy hw ?_
  intro p e s m args below meth c s₁ B hml hv
  obtain ⟨rfl, hP, hK, hD, hN⟩ := hv
  have hown : s.vm.findClass own = some m.cls := by rw [← hcl]; exact findClass_of_methodNamed B.named
  have hlocks := B.notSynchronized
  rw [lg_entry_eq]
  refine body ⟨⟨B.exec, B.bytes, hml, hown, fun w h => atoms_spec (ws := ws) B.pre w (by rw [hw]; exact List.mem_cons_of_mem _ h)⟩, hK, hN⟩ ⟨hP, hD, va_S.rf⟩ ?_ _ (lv_entry av hav)
  intro pc H locs ls v σ2 hdg hG he
  obtain ⟨rfl, rfl⟩ := he
  exact W.aret (v := va_rf (v.map (fun k => xN X + k))) B.exec B.bytes B.returns (Or.inl ⟨C, rfl⟩) (va_rf_or _) (fun t ht hW => ⟨⟨_, (), rfl, rfl, by rw [ht]; exact hG.1, va_K.moved hW.alike hK, hG.2.1, hN.warm hW⟩, hG.2.2.F ht⟩) hG.2.2.2.2 hdg
end START
section ROWS
variable {p : Program} {l : Launch} {e : Env} {R : Room} {s : State} {m : MethodId} {args : Array Value} {below : List Frame} {meth : Method} {c : Code} {H : Heap} {locs : List Loc} {cells slots : Nat} {Q : State → Prop}
variable {cc : ByteArray} {pc nL : Nat} {ls : Array Slot} {rest st : List Value} {own : String} {X : gX} {σ σ' : gM} {t idx : Nat}
theorem g_get {C : String} {T : u_T} {N ci : Nat} {fs : List Value} {v : Value} (K : gC X p s m args c cc nL own) (G : gG X σ s H locs) (ht : xlo X ≤ t ∧ t < xhi X) (hE : gE X σ t = .inr (ci, fs)) (hc : vwCl[ci]? = some (C, T, N)) (hin : ∀ w ∈ u_ws C T N, w ∈ gBig) (j : Nat) (hj : j < N) (hl : Cond.fieldLink own idx (T j).1 (T j).2.1 (T j).2.2.1 ∈ gBig) (hv : fs[j]? = some v) (hdg : decode cc pc = .ok (.getfield idx, 3))
    (kk : W p l e R s m args below meth c H locs cells slots Q (F0 m (pc + 3) ls (v :: rest))) : W p l e R s m args below meth c H locs cells slots Q (F0 m pc ls (.ref (xN X + t) :: rest)) :=
  va_get K.1.1 K.1.2.1 K.1.2.2.2.2 hin K.1.2.2.2.1 K.2.1 G.1 _ ((gws_at ht.1 ht.2).trans (congrArg (fun q => some (xN X + t, q)) hE)) hc j hj (K.1.2.2.2.2 _ hl) (fun _ h => h) hv hdg kk
theorem g_getN {C ref n d host : String} {T : u_T} {N ci : Nat} {fs : List Value} {v : Value} (K : gC X p s m args c cc nL own) (G : gG X σ s H locs) (ht : xlo X ≤ t ∧ t < xhi X) (hE : gE X σ t = .inr (ci, fs)) (hc : vwCl[ci]? = some (C, T, N)) (hin : ∀ w ∈ u_ws C T N, w ∈ gBig) (j : Nat) (hj : j < N) (hT : T j = (ref, n, d, true) ∨ T j = (ref, n, d, false)) (hl : (own, idx, ref, n, d, host) ∈ gNF) (hv : fs[j]? = some v) (hdg : decode cc pc = .ok (.getfield idx, 3))
    (kk : W p l e R s m args below meth c H locs cells slots Q (F0 m (pc + 3) ls (v :: rest))) : W p l e R s m args below meth c H locs cells slots Q (F0 m pc ls (.ref (xN X + t) :: rest)) := by
  have hl2 := va_Nw.use (A := args) rfl (K.2.2.1 _ hl)
  have e1 : (T j).1 = ref := by rcases hT with h | h <;> rw [h]
  have e2 : (T j).2.1 = n := by rcases hT with h | h <;> rw [h]
  have e3 : (T j).2.2.1 = d := by rcases hT with h | h <;> rw [h]
  exact va_getN (ref := ref) (host := host) K.1.1 K.1.2.1 K.1.2.2.2.2 hin K.1.2.2.2.1 K.2.1 G.1 _ ((gws_at ht.1 ht.2).trans (congrArg (fun q => some (xN X + t, q)) hE)) hc j hj (by rw [e2, e3]; exact hl2) (fun _ h => by rw [← e1]; exact h) hv hdg kk
theorem g_put {C : String} {T : u_T} {N ci : Nat} {fs fs' : List Value} {x : Int32} {f : Nat → Int32} (K : gC X p s m args c cc nL own) (G : gG X σ s H locs) (ht : xlo X ≤ t ∧ t < xhi X) (hE : gE X σ t = .inr (ci, fs)) (hE' : gE X (gset σ t f) t = .inr (ci, fs')) (hc : vwCl[ci]? = some (C, T, N)) (hin : ∀ w ∈ u_ws C T N, w ∈ gBig) (ty0 : Nat → FieldType) (hty : ∀ k, k < N → parseFieldDescriptor (T k).2.2.1 = some (ty0 k)) (hnm : ∀ a, a < N → ∀ b, b < N → a ≠ b → (T a).2.1 ≠ (T b).2.1) (j : Nat) (hj : j < N) (hl : Cond.fieldLink own idx (T j).1 (T j).2.1 (T j).2.2.1 ∈ gBig) (hfin : (T j).2.2.2 = false) {ty : FieldType} (hd : parseFieldDescriptor (T j).2.2.1 = some ty) (hn : narrow ty (.int x) = .int x) (hfit : fits ty (.int x) = true) (hlen : j < fs.length) (hs : fs.set j (.int x) = fs') (hdg : decode cc pc = .ok (.putfield idx, 3))
    (kk : ∀ (H1 : Heap) (locs1 : List Loc), gG X (gset σ t f) s H1 locs1 → W p l e R s m args below meth c H1 locs1 cells slots Q (F0 m (pc + 3) ls rest)) : W p l e R s m args below meth c H locs cells slots Q (F0 m pc ls (.int x :: .ref (xN X + t) :: rest)) := by
  refine va_put K.1.1 K.1.2.1 K.1.2.2.2.2 hin ty0 hty hnm K.1.2.2.2.1 K.2.1 G.1 G.2.1 G.2.2 _ ((gws_at ht.1 ht.2).trans (congrArg (fun q => some (xN X + t, q)) hE)) hc j hj (K.1.2.2.2.2 _ hl) (fun _ h => h) hfin hd hn hfit hlen hdg (fun H1 locs1 hP hD hS => ?_)
  rw [hs, gws_set ht.1 ht.2 (gE_set hE')] at hP hD
  exact kk H1 locs1 ⟨hP, hD, hS⟩
theorem g_iald {i : Int32} (K : gC X p s m args c cc nL own) (G : gG X σ s H locs) (ht : gkd t = 10 ∧ xlo X ≤ t ∧ t < xhi X) (hi : ¬ (i < 0 ∨ gln t ≤ i.toNatClampNeg)) (hdg : decode cc pc = .ok (.iaload, 1))
    (kk : W p l e R s m args below meth c H locs cells slots Q (F0 m (pc + 1) ls (.int (σ t i.toNatClampNeg) :: rest))) : W p l e R s m args below meth c H locs cells slots Q (F0 m pc ls (.int i :: .ref (xN X + t) :: rest)) :=
  va_iald K.1.1 K.1.2.1 K.2.1 G.1 _ 0 ((gws_at ht.2.1 ht.2.2).trans (congrArg (fun q => some (xN X + t, q)) (gE_10 ht.1))) rfl hi hdg kk
theorem g_cald {i : Int32} (K : gC X p s m args c cc nL own) (G : gG X σ s H locs) (ht : gkd t = 11 ∧ xlo X ≤ t ∧ t < xhi X) (hi : ¬ (i < 0 ∨ gln t ≤ i.toNatClampNeg)) (hdg : decode cc pc = .ok (.caload, 1))
    (kk : W p l e R s m args below meth c H locs cells slots Q (F0 m (pc + 1) ls (.int (σ t i.toNatClampNeg) :: rest))) : W p l e R s m args below meth c H locs cells slots Q (F0 m pc ls (.int i :: .ref (xN X + t) :: rest)) :=
  va_cald K.1.1 K.1.2.1 K.2.1 G.1 _ 1 ((gws_at ht.2.1 ht.2.2).trans (congrArg (fun q => some (xN X + t, q)) (gE_11 ht.1))) rfl hi hdg kk
theorem g_iast {i x : Int32} (K : gC X p s m args c cc nL own) (G : gG X σ s H locs) (ht : gkd t = 10 ∧ xlo X ≤ t ∧ t < xhi X) (hi : ¬ (i < 0 ∨ gln t ≤ i.toNatClampNeg)) (hdg : decode cc pc = .ok (.iastore, 1))
    (kk : ∀ (H1 : Heap) (locs1 : List Loc), gG X (gset σ t (upd (σ t) i.toNatClampNeg x)) s H1 locs1 → W p l e R s m args below meth c H1 locs1 cells slots Q (F0 m (pc + 1) ls rest)) : W p l e R s m args below meth c H locs cells slots Q (F0 m pc ls (.int x :: .int i :: .ref (xN X + t) :: rest)) := by
  refine va_iast K.1.1 K.1.2.1 K.2.1 G.1 G.2.1 G.2.2 _ 0 ((gws_at ht.2.1 ht.2.2).trans (congrArg (fun q => some (xN X + t, q)) (gE_10 ht.1))) rfl hi hdg (fun H1 locs1 hP hD hS => ?_)
  rw [gws_set ht.2.1 ht.2.2 (gE_set ((gE_10 ht.1).trans (by rw [gset_at])))] at hP hD
  exact kk H1 locs1 ⟨hP, hD, hS⟩
theorem g_cast {i x : Int32} (K : gC X p s m args c cc nL own) (G : gG X σ s H locs) (ht : gkd t = 11 ∧ xlo X ≤ t ∧ t < xhi X) (hi : ¬ (i < 0 ∨ gln t ≤ i.toNatClampNeg)) (hdg : decode cc pc = .ok (.castore, 1))
    (kk : ∀ (H1 : Heap) (locs1 : List Loc), gG X (gset σ t (upd (σ t) i.toNatClampNeg (vp_nar .char x))) s H1 locs1 → W p l e R s m args below meth c H1 locs1 cells slots Q (F0 m (pc + 1) ls rest)) : W p l e R s m args below meth c H locs cells slots Q (F0 m pc ls (.int x :: .int i :: .ref (xN X + t) :: rest)) := by
  refine va_cast K.1.1 K.1.2.1 K.2.1 G.1 G.2.1 G.2.2 _ 1 ((gws_at ht.2.1 ht.2.2).trans (congrArg (fun q => some (xN X + t, q)) (gE_11 ht.1))) rfl hi hdg (fun H1 locs1 hP hD hS => ?_)
  rw [gws_set ht.2.1 ht.2.2 (gE_set ((gE_11 ht.1).trans (by rw [gset_at])))] at hP hD
  exact kk H1 locs1 ⟨hP, hD, hS⟩
theorem g_alen (K : gC X p s m args c cc nL own) (G : gG X σ s H locs) (ht : gkd t = 10 ∧ xlo X ≤ t ∧ t < xhi X) (hdg : decode cc pc = .ok (.arraylength, 1))
    (kk : W p l e R s m args below meth c H locs cells slots Q (F0 m (pc + 1) ls (.int (nI (gln t)) :: rest))) : W p l e R s m args below meth c H locs cells slots Q (F0 m pc ls (.ref (xN X + t) :: rest)) :=
  va_alen K.1.1 K.1.2.1 K.2.1 G.1 _ 0 ((gws_at ht.2.1 ht.2.2).trans (congrArg (fun q => some (xN X + t, q)) (gE_10 ht.1))) (ty := .int) rfl rfl hdg kk
theorem g_qlen (K : gC X p s m args c cc nL own) (G : gG X σ s H locs) (ht : gkd t = 12 ∧ xlo X ≤ t ∧ t < xhi X) (hdg : decode cc pc = .ok (.arraylength, 1))
    (kk : W p l e R s m args below meth c H locs cells slots Q (F0 m (pc + 1) ls (.int (nI (gln t)) :: rest))) : W p l e R s m args below meth c H locs cells slots Q (F0 m pc ls (.ref (xN X + t) :: rest)) :=
  va_alen K.1.1 K.1.2.1 K.2.1 G.1 _ 2 ((gws_at ht.2.1 ht.2.2).trans (congrArg (fun q => some (xN X + t, q)) (gE_12 ht.1))) (ty := .object RX0) rfl rfl hdg kk
theorem g_aald {i : Int32} (K : gC X p s m args c cc nL own) (G : gG X σ s H locs) (ht : gkd t = 12 ∧ xlo X ≤ t ∧ t < xhi X) (hi : ¬ (i < 0 ∨ gln t ≤ i.toNatClampNeg)) (hst : ∀ j, j < gln t → xst X t j = true) (hdg : decode cc pc = .ok (.aaload, 1))
    (kk : W p l e R s m args below meth c H locs cells slots Q (F0 m (pc + 1) ls (.ref (xN X + (t + (1 + 15 * i.toNatClampNeg))) :: rest))) : W p l e R s m args below meth c H locs cells slots Q (F0 m pc ls (.int i :: .ref (xN X + t) :: rest)) := by
  refine va_aldq K.1.1 K.1.2.1 K.2.1 G.1 _ 2 ((gws_at ht.2.1 ht.2.2).trans (congrArg (fun q => some (xN X + t, q)) (gE_12 ht.1))) (C := RX0) rfl hi hdg ?_
  rw [if_pos (hst _ (Nat.not_le.mp fun q => hi (Or.inr q)))]
  exact kk
theorem g_recv {C : String} {T : u_T} {N ci : Nat} {fs : List Value} (hK : va_K (xD X) vwCl (xty X) s) (G : gG X σ s H locs) (ht : xlo X ≤ t ∧ t < xhi X) (hE : gE X σ t = .inr (ci, fs)) (hc : vwCl[ci]? = some (C, T, N)) : ∃ cell : Cell, H[xN X + t]? = some cell ∧ cell.vm.isStatics = false ∧ s.vm.findClass C = some cell.cls :=
  va_recv (q := (C, T, N)) hK G.1 hc ((gws_at ht.1 ht.2).trans (congrArg (fun q => some (xN X + t, q)) hE))
variable {y : MethodName} {wsy : List Cond} {rm : Room} {Qc : Array Value → State → Outcome → State → Prop} {As : List Value} {bytes : ByteArray} {maxL n : Nat} {ret : Option FieldType}
theorem g_runV {C : String} {T : u_T} {N ci : Nat} {fs : List Value} (K : gC X p s m args c cc nL own) (G : gG X σ s H locs) (hM : Met l y wsy rm (gPc X σ (.ref (xN X + t) :: As)) Qc 0 0 (xA X)) (ht : xlo X ≤ t ∧ t < xhi X) (hE : gE X σ t = .inr (ci, fs)) (hc : vwCl[ci]? = some (C, T, N)) (hg : GoodIn gBig (wsV own idx C y wsy)) (hw : wsy = Cond.code y bytes maxL ret :: gBig) (hrc : rm.cells = 0) (hrs : rm.slots = 0)
    (hd : y.cls = C ∧ y.cls ≠ "java/lang/invoke/MethodHandle" ∧ y.cls ≠ "java/lang/invoke/VarHandle" ∧ (parseMethodDescriptor y.desc).map (fun d => d.parameters.length) = some n) (hR : rm.frames + 1 ≤ R.frames ∧ 8 + (maxL + 11) + rm.locals ≤ R.locals) (hn : As.length = n) (hsz : ls.size = nL) (hst : st = As.reverse ++ .ref (xN X + t) :: rest) (hr8 : (rest.map fun v => v.category).sum ≤ 8) (hdg : decode cc pc = .ok (.invokevirtual idx, 3)) (hf : cells + 0 ≤ R.cells ∧ slots + 0 ≤ R.slots) :
    va_Run p l e R s m args below meth c H locs cells slots 0 0 (F0 m pc ls st) rest (Qc (Value.ref (xN X + t) :: As).toArray) (xA X) :=
  va_runV (As := As) (rest := rest) K.1 hM (cwV n K.1.2.2.2.2 hg hw hrc hrs hd hR) ⟨g_blind, g_recv K.2.1 G ht hE hc, fun U hU hW => ⟨rfl, by rw [hU]; exact G.1, va_K.moved hW.alike K.2.1, G.2.1, K.2.2.warm hW⟩⟩ rfl hn hsz hst (lv_room hr8) hdg hf
theorem g_runS (K : gC X p s m args c cc nL own) (G : gG X σ s H locs) (hM : Met l y wsy rm (gPc X σ As) Qc 0 0 (xA X)) (hg : GoodIn gBig (va_wsS own idx y wsy)) (hw : wsy = Cond.code y bytes maxL ret :: gBig) (hrc : rm.cells = 0) (hrs : rm.slots = 0)
    (hd : y.cls ≠ "java/lang/invoke/MethodHandle" ∧ y.cls ≠ "java/lang/invoke/VarHandle" ∧ (parseMethodDescriptor y.desc).map (fun d => d.parameters.length) = some n) (hR : rm.frames + 1 ≤ R.frames ∧ 8 + (maxL + 11) + rm.locals ≤ R.locals) (hn : As.length = n) (hsz : ls.size = nL) (hst : st = As.reverse ++ rest) (hr8 : (rest.map fun v => v.category).sum ≤ 8) (hdg : decode cc pc = .ok (.invokestatic idx, 3)) (hf : cells + 0 ≤ R.cells ∧ slots + 0 ≤ R.slots) :
    va_Run p l e R s m args below meth c H locs cells slots 0 0 (F0 m pc ls st) rest (Qc As.toArray) (xA X) := by
  have ok : ∀ w ∈ va_wsS own idx y wsy, w.before args s = true := fun w h => K.1.2.2.2.2 w (hg w h).1
  exact va_runS (As := As) (rest := rest) K.1 hM ⟨callB_of n K.1.2.2.2.2 (fun w h => hg w (by unfold va_wsS; exact List.mem_append_right _ h)) hw hrc hrs (ok _ (by simp [va_wsS])) (ok _ (by simp [va_wsS])) hd hR, ok _ (by simp [va_wsS])⟩ ⟨g_blind, fun U hU hW => ⟨rfl, by rw [hU]; exact G.1, va_K.moved hW.alike K.2.1, G.2.1, K.2.2.warm hW⟩⟩ rfl hn hsz hst (lv_room hr8) hdg hf
theorem g_calli {a : Array Value} {r : Int32} (hr : va_Run p l e R s m args below meth c H locs cells slots 0 0 (F0 m pc ls st) rest (gQi X σ' r a) (xA X)) (G : gG X σ s H locs) (kk : ∀ (H1 : Heap) (locs1 : List Loc), gG X σ' s H1 locs1 → W p l e R s m args below meth c H1 locs1 cells slots Q (F0 m (pc + 3) ls (.int r :: rest))) : W p l e R s m args below meth c H locs cells slots Q (F0 m pc ls st) :=
  va_calli hr G.2.2 (fun _ _ h => h) (fun _ h => h) (fun r1 u t H1 locs1 ht hvm hp hB hz hk hS => by
    subst hp
    subst ht
    exact kk _ _ ⟨hB.1, hB.2.2.1, hS⟩)
theorem g_callv {a : Array Value} (hr : va_Run p l e R s m args below meth c H locs cells slots 0 0 (F0 m pc ls st) rest (gQv X σ' a) (xA X)) (G : gG X σ s H locs) (kk : ∀ (H1 : Heap) (locs1 : List Loc), gG X σ' s H1 locs1 → W p l e R s m args below meth c H1 locs1 cells slots Q (F0 m (pc + 3) ls rest)) : W p l e R s m args below meth c H locs cells slots Q (F0 m pc ls st) :=
  va_callv hr G.2.2 (fun _ _ h => h) (fun _ h => h) (fun u t H1 locs1 ht hvm hp hB hz hk hS => by
    subst ht
    exact kk _ _ ⟨hB.1, hB.2.2.1, hS⟩)
theorem g_callr {a : Array Value} {r : Option Nat} (hr : va_Run p l e R s m args below meth c H locs cells slots 0 0 (F0 m pc ls st) rest (gQr X σ' r a) (xA X)) (G : gG X σ s H locs) (kk : ∀ (H1 : Heap) (locs1 : List Loc), gG X σ' s H1 locs1 → W p l e R s m args below meth c H1 locs1 cells slots Q (F0 m (pc + 3) ls (va_rf (r.map (fun k => xN X + k)) :: rest))) : W p l e R s m args below meth c H locs cells slots Q (F0 m pc ls st) :=
  va_callq hr G.2.2 (fun _ _ h => h) (fun _ h => h) (fun r1 u t H1 locs1 ht hvm hp hB hz hk hS => by
    subst hp
    subst ht
    exact kk _ _ ⟨hB.1, hB.2.2.1, hS⟩)
/-- System.arraycopy between int arrays -/
theorem g_copy {t2 : Nat} {sp dp k : Int32} (K : gC X p s m args c cc nL own) (G : gG X σ s H locs) (h0 : gkd t = 10 ∧ xlo X ≤ t ∧ t < xhi X) (h1 : gkd t2 = 10 ∧ xlo X ≤ t2 ∧ t2 < xhi X) (hsz : ls.size = nL) (hl : Cond.methodLink own idx arraycopyName ∈ gBig) (hnat : Cond.native arraycopyName ∈ gBig) (hstat : Cond.static arraycopyName ∈ gBig) (hini : Cond.initialized "java/lang/System" ∈ gBig) (hc : ¬ sp < 0 ∧ ¬ dp < 0 ∧ ¬ k < 0 ∧ sp.toNatClampNeg + k.toNatClampNeg ≤ gln t ∧ dp.toNatClampNeg + k.toNatClampNeg ≤ gln t2) (hframes : 1 ≤ R.frames) (hlocals : (rest.map fun v => v.category).sum + (nativeFrameWords "java/lang/System" "arraycopy" 5 + 11) ≤ R.locals) (hdg : decode cc pc = .ok (.invokestatic idx, 3))
    (kk : ∀ (H1 : Heap) (locs1 : List Loc), gG X (gset σ t2 (va_cpy (σ t) (σ t2) sp.toNatClampNeg dp.toNatClampNeg k.toNatClampNeg)) s H1 locs1 → W p l e R s m args below meth c H1 locs1 cells slots Q (F0 m (pc + 3) ls rest)) : W p l e R s m args below meth c H locs cells slots Q (F0 m pc ls (.int k :: .int dp :: .ref (xN X + t2) :: .int sp :: .ref (xN X + t) :: rest)) := by
  have hts := K.1.2.2.2.2
  refine va_copyi K.1.1 K.1.2.1 (K.1.2.2.1.trans hsz.symm) K.1.2.2.2.1 (hts _ hl) (hts _ hnat) (hts _ hstat) (hts _ hini) K.2.1 G.1 G.2.1 G.2.2 _ _ 0 0 ((gws_at h0.2.1 h0.2.2).trans (congrArg (fun q => some (xN X + t, q)) (gE_10 h0.1))) ((gws_at h1.2.1 h1.2.2).trans (congrArg (fun q => some (xN X + t2, q)) (gE_10 h1.1))) (ty := .int) rfl rfl rfl hc.1 hc.2.1 hc.2.2.1 hc.2.2.2.1 hc.2.2.2.2 (fun _ _ => rfl) hframes hlocals hdg (fun H1 locs1 hP hD hS => ?_)
  rw [gws_set h1.2.1 h1.2.2 (gE_set ((gE_10 h1.1).trans (by rw [gset_at])))] at hP hD
  exact kk H1 locs1 ⟨hP, hD, hS⟩
theorem g_max {x z : Int32} (K : gC X p s m args c cc nL own) (hsz : ls.size = nL) (hl : Cond.methodLink own idx Lib.Math.max.name ∈ gBig) (hstat : Cond.static Lib.Math.max.name ∈ gBig) (hini : Cond.initialized "java/lang/Math" ∈ gBig) (hcode : Cond.code Lib.Math.max.name Lib.Math.max.code 2 (some .int) ∈ gBig) (hframes : 1 ≤ R.frames) (hlocals : (rest.map fun v => v.category).sum + 13 ≤ R.locals) (hc : cells ≤ R.cells) (hs : slots ≤ R.slots) (hdg : decode cc pc = .ok (.invokestatic idx, 3))
    (kk : W p l e R s m args below meth c H locs cells slots Q (F0 m (pc + 3) ls (.int (if x < z then z else x) :: rest))) : W p l e R s m args below meth c H locs cells slots Q (F0 m pc ls (.int z :: .int x :: rest)) :=
  va_mmax K.1.1 K.1.2.1 (K.1.2.2.1.trans hsz.symm) K.1.2.2.2.1 (K.1.2.2.2.2 _ hl) (K.1.2.2.2.2 _ hstat) (K.1.2.2.2.2 _ hini) (K.1.2.2.2.2 _ hcode) hframes hlocals hc hs hdg kk
theorem g_min {x z : Int32} (K : gC X p s m args c cc nL own) (hsz : ls.size = nL) (hl : Cond.methodLink own idx Lib.Math.min.name ∈ gBig) (hstat : Cond.static Lib.Math.min.name ∈ gBig) (hini : Cond.initialized "java/lang/Math" ∈ gBig) (hcode : Cond.code Lib.Math.min.name Lib.Math.min.code 2 (some .int) ∈ gBig) (hframes : 1 ≤ R.frames) (hlocals : (rest.map fun v => v.category).sum + 13 ≤ R.locals) (hc : cells ≤ R.cells) (hs : slots ≤ R.slots) (hdg : decode cc pc = .ok (.invokestatic idx, 3))
    (kk : W p l e R s m args below meth c H locs cells slots Q (F0 m (pc + 3) ls (.int (if z < x then z else x) :: rest))) : W p l e R s m args below meth c H locs cells slots Q (F0 m pc ls (.int z :: .int x :: rest)) :=
  va_mmin K.1.1 K.1.2.1 (K.1.2.2.1.trans hsz.symm) K.1.2.2.2.1 (K.1.2.2.2.2 _ hl) (K.1.2.2.2.2 _ hstat) (K.1.2.2.2.2 _ hini) (K.1.2.2.2.2 _ hcode) hframes hlocals hc hs hdg kk
theorem gg0_0 (K : gC X p s m args c cc nL own) (G : gG X σ s H locs) (ht : gkd t = 0 ∧ xlo X ≤ t ∧ t < xhi X) (hst : xst X t 0 = true) (hl : Cond.fieldLink own idx "TornPages$Desk" "scraps" "LTornPages$Scraps;" ∈ gBig) (hdg : decode cc pc = .ok (.getfield idx, 3)) (kk : W p l e R s m args below meth c H locs cells slots Q (F0 m (pc + 3) ls ((.ref (xN X + (t + 1))) :: rest))) : W p l e R s m args below meth c H locs cells slots Q (F0 m pc ls (.ref (xN X + t) :: rest)) := g_get (C := RX0) (T := TX0) (N := 2) K G ht.2 (gE_0 ht.1) rfl inB0 0 (by decide) hl (by show some (gref X t 0 1) = some _; rw [gref, if_pos hst]) hdg kk
theorem gn0_0 {host : String} (K : gC X p s m args c cc nL own) (G : gG X σ s H locs) (ht : gkd t = 0 ∧ xlo X ≤ t ∧ t < xhi X) (hst : xst X t 0 = true) (hl : (own, idx, "TornPages$Desk", "scraps", "LTornPages$Scraps;", host) ∈ gNF) (hdg : decode cc pc = .ok (.getfield idx, 3)) (kk : W p l e R s m args below meth c H locs cells slots Q (F0 m (pc + 3) ls ((.ref (xN X + (t + 1))) :: rest))) : W p l e R s m args below meth c H locs cells slots Q (F0 m pc ls (.ref (xN X + t) :: rest)) := g_getN (C := RX0) (T := TX0) (N := 2) K G ht.2 (gE_0 ht.1) rfl inB0 0 (by decide) (Or.inl rfl) hl (by show some (gref X t 0 1) = some _; rw [gref, if_pos hst]) hdg kk
theorem gg0_1 (K : gC X p s m args c cc nL own) (G : gG X σ s H locs) (ht : gkd t = 0 ∧ xlo X ≤ t ∧ t < xhi X) (hst : xst X t 1 = true) (hl : Cond.fieldLink own idx "TornPages$Desk" "page" "LTornPages$Page;" ∈ gBig) (hdg : decode cc pc = .ok (.getfield idx, 3)) (kk : W p l e R s m args below meth c H locs cells slots Q (F0 m (pc + 3) ls ((.ref (xN X + (t + 8))) :: rest))) : W p l e R s m args below meth c H locs cells slots Q (F0 m pc ls (.ref (xN X + t) :: rest)) := g_get (C := RX0) (T := TX0) (N := 2) K G ht.2 (gE_0 ht.1) rfl inB0 1 (by decide) hl (by show some (gref X t 1 8) = some _; rw [gref, if_pos hst]) hdg kk
theorem gn0_1 {host : String} (K : gC X p s m args c cc nL own) (G : gG X σ s H locs) (ht : gkd t = 0 ∧ xlo X ≤ t ∧ t < xhi X) (hst : xst X t 1 = true) (hl : (own, idx, "TornPages$Desk", "page", "LTornPages$Page;", host) ∈ gNF) (hdg : decode cc pc = .ok (.getfield idx, 3)) (kk : W p l e R s m args below meth c H locs cells slots Q (F0 m (pc + 3) ls ((.ref (xN X + (t + 8))) :: rest))) : W p l e R s m args below meth c H locs cells slots Q (F0 m pc ls (.ref (xN X + t) :: rest)) := g_getN (C := RX0) (T := TX0) (N := 2) K G ht.2 (gE_0 ht.1) rfl inB0 1 (by decide) (Or.inl rfl) hl (by show some (gref X t 1 8) = some _; rw [gref, if_pos hst]) hdg kk
theorem gg1_0 (K : gC X p s m args c cc nL own) (G : gG X σ s H locs) (ht : gkd t = 1 ∧ xlo X ≤ t ∧ t < xhi X) (hst : xst X t 0 = true) (hl : Cond.fieldLink own idx "TornPages$Draft" "profiles" "LTornPages$Row;" ∈ gBig) (hdg : decode cc pc = .ok (.getfield idx, 3)) (kk : W p l e R s m args below meth c H locs cells slots Q (F0 m (pc + 3) ls ((.ref (xN X + (t + 1))) :: rest))) : W p l e R s m args below meth c H locs cells slots Q (F0 m pc ls (.ref (xN X + t) :: rest)) := g_get (C := RX1) (T := TX1) (N := 3) K G ht.2 (gE_1 ht.1) rfl inB1 0 (by decide) hl (by show some (gref X t 0 1) = some _; rw [gref, if_pos hst]) hdg kk
theorem gg1_1 (K : gC X p s m args c cc nL own) (G : gG X σ s H locs) (ht : gkd t = 1 ∧ xlo X ≤ t ∧ t < xhi X) (hst : xst X t 1 = true) (hl : Cond.fieldLink own idx "TornPages$Draft" "lines" "LTornPages$Row;" ∈ gBig) (hdg : decode cc pc = .ok (.getfield idx, 3)) (kk : W p l e R s m args below meth c H locs cells slots Q (F0 m (pc + 3) ls ((.ref (xN X + (t + 3))) :: rest))) : W p l e R s m args below meth c H locs cells slots Q (F0 m pc ls (.ref (xN X + t) :: rest)) := g_get (C := RX1) (T := TX1) (N := 3) K G ht.2 (gE_1 ht.1) rfl inB1 1 (by decide) hl (by show some (gref X t 1 3) = some _; rw [gref, if_pos hst]) hdg kk
theorem gg1_2 (K : gC X p s m args c cc nL own) (G : gG X σ s H locs) (ht : gkd t = 1 ∧ xlo X ≤ t ∧ t < xhi X) (hl : Cond.fieldLink own idx "TornPages$Draft" "kind" "I" ∈ gBig) (hdg : decode cc pc = .ok (.getfield idx, 3)) (kk : W p l e R s m args below meth c H locs cells slots Q (F0 m (pc + 3) ls ((.int (σ t 2)) :: rest))) : W p l e R s m args below meth c H locs cells slots Q (F0 m pc ls (.ref (xN X + t) :: rest)) := g_get (C := RX1) (T := TX1) (N := 3) K G ht.2 (gE_1 ht.1) rfl inB1 2 (by decide) hl rfl hdg kk
theorem gp1_2 {x : Int32} (K : gC X p s m args c cc nL own) (G : gG X σ s H locs) (ht : gkd t = 1 ∧ xlo X ≤ t ∧ t < xhi X) (hl : Cond.fieldLink own idx "TornPages$Draft" "kind" "I" ∈ gBig) (hdg : decode cc pc = .ok (.putfield idx, 3)) (kk : ∀ (H1 : Heap) (locs1 : List Loc), gG X (gset σ t (upd (σ t) 2 x)) s H1 locs1 → W p l e R s m args below meth c H1 locs1 cells slots Q (F0 m (pc + 3) ls rest)) : W p l e R s m args below meth c H locs cells slots Q (F0 m pc ls (.int x :: .ref (xN X + t) :: rest)) := g_put (C := RX1) (T := TX1) (N := 3) (fs := [gref X t 0 1, gref X t 1 3, .int (σ t 2)]) (fs' := [gref X t 0 1, gref X t 1 3, .int (gset σ t (upd (σ t) 2 x) t 2)]) (f := upd (σ t) 2 x) (ty := .int) K G ht.2 (gE_1 ht.1) (gE_1 ht.1) rfl inB1 tyX1 tyX1_ok nmX1 2 (by decide) hl rfl (by decide +kernel) rfl rfl (Nat.le_of_ble_eq_true rfl) (by simp [gset_at, upd]) hdg kk
theorem gg2_0 (K : gC X p s m args c cc nL own) (G : gG X σ s H locs) (ht : gkd t = 2 ∧ xlo X ≤ t ∧ t < xhi X) (hst : xst X t 0 = true) (hl : Cond.fieldLink own idx "TornPages$Groups" "lowest" "LTornPages$Row;" ∈ gBig) (hdg : decode cc pc = .ok (.getfield idx, 3)) (kk : W p l e R s m args below meth c H locs cells slots Q (F0 m (pc + 3) ls ((.ref (xN X + (t + 1))) :: rest))) : W p l e R s m args below meth c H locs cells slots Q (F0 m pc ls (.ref (xN X + t) :: rest)) := g_get (C := RX2) (T := TX2) (N := 2) K G ht.2 (gE_2 ht.1) rfl inB2 0 (by decide) hl (by show some (gref X t 0 1) = some _; rw [gref, if_pos hst]) hdg kk
theorem gg2_1 (K : gC X p s m args c cc nL own) (G : gG X σ s H locs) (ht : gkd t = 2 ∧ xlo X ≤ t ∧ t < xhi X) (hl : Cond.fieldLink own idx "TornPages$Groups" "scraps" "I" ∈ gBig) (hdg : decode cc pc = .ok (.getfield idx, 3)) (kk : W p l e R s m args below meth c H locs cells slots Q (F0 m (pc + 3) ls ((.int (σ t 1)) :: rest))) : W p l e R s m args below meth c H locs cells slots Q (F0 m pc ls (.ref (xN X + t) :: rest)) := g_get (C := RX2) (T := TX2) (N := 2) K G ht.2 (gE_2 ht.1) rfl inB2 1 (by decide) hl rfl hdg kk
theorem gp2_1 {x : Int32} (K : gC X p s m args c cc nL own) (G : gG X σ s H locs) (ht : gkd t = 2 ∧ xlo X ≤ t ∧ t < xhi X) (hl : Cond.fieldLink own idx "TornPages$Groups" "scraps" "I" ∈ gBig) (hdg : decode cc pc = .ok (.putfield idx, 3)) (kk : ∀ (H1 : Heap) (locs1 : List Loc), gG X (gset σ t (upd (σ t) 1 x)) s H1 locs1 → W p l e R s m args below meth c H1 locs1 cells slots Q (F0 m (pc + 3) ls rest)) : W p l e R s m args below meth c H locs cells slots Q (F0 m pc ls (.int x :: .ref (xN X + t) :: rest)) := g_put (C := RX2) (T := TX2) (N := 2) (fs := [gref X t 0 1, .int (σ t 1)]) (fs' := [gref X t 0 1, .int (gset σ t (upd (σ t) 1 x) t 1)]) (f := upd (σ t) 1 x) (ty := .int) K G ht.2 (gE_2 ht.1) (gE_2 ht.1) rfl inB2 tyX2 tyX2_ok nmX2 1 (by decide) hl rfl (by decide +kernel) rfl rfl (Nat.le_of_ble_eq_true rfl) (by simp [gset_at, upd]) hdg kk
theorem gg3_0 (K : gC X p s m args c cc nL own) (G : gG X σ s H locs) (ht : gkd t = 3 ∧ xlo X ≤ t ∧ t < xhi X) (hst : xst X t 0 = true) (hl : Cond.fieldLink own idx "TornPages$History" "states" "[LTornPages$Desk;" ∈ gBig) (hdg : decode cc pc = .ok (.getfield idx, 3)) (kk : W p l e R s m args below meth c H locs cells slots Q (F0 m (pc + 3) ls ((.ref (xN X + (t + 1))) :: rest))) : W p l e R s m args below meth c H locs cells slots Q (F0 m pc ls (.ref (xN X + t) :: rest)) := g_get (C := RX3) (T := TX3) (N := 3) K G ht.2 (gE_3 ht.1) rfl inB3 0 (by decide) hl (by show some (gref X t 0 1) = some _; rw [gref, if_pos hst]) hdg kk
theorem gg3_1 (K : gC X p s m args c cc nL own) (G : gG X σ s H locs) (ht : gkd t = 3 ∧ xlo X ≤ t ∧ t < xhi X) (hl : Cond.fieldLink own idx "TornPages$History" "oldest" "I" ∈ gBig) (hdg : decode cc pc = .ok (.getfield idx, 3)) (kk : W p l e R s m args below meth c H locs cells slots Q (F0 m (pc + 3) ls ((.int (σ t 1)) :: rest))) : W p l e R s m args below meth c H locs cells slots Q (F0 m pc ls (.ref (xN X + t) :: rest)) := g_get (C := RX3) (T := TX3) (N := 3) K G ht.2 (gE_3 ht.1) rfl inB3 1 (by decide) hl rfl hdg kk
theorem gp3_1 {x : Int32} (K : gC X p s m args c cc nL own) (G : gG X σ s H locs) (ht : gkd t = 3 ∧ xlo X ≤ t ∧ t < xhi X) (hl : Cond.fieldLink own idx "TornPages$History" "oldest" "I" ∈ gBig) (hdg : decode cc pc = .ok (.putfield idx, 3)) (kk : ∀ (H1 : Heap) (locs1 : List Loc), gG X (gset σ t (upd (σ t) 1 x)) s H1 locs1 → W p l e R s m args below meth c H1 locs1 cells slots Q (F0 m (pc + 3) ls rest)) : W p l e R s m args below meth c H locs cells slots Q (F0 m pc ls (.int x :: .ref (xN X + t) :: rest)) := g_put (C := RX3) (T := TX3) (N := 3) (fs := [gref X t 0 1, .int (σ t 1), .int (σ t 2)]) (fs' := [gref X t 0 1, .int (gset σ t (upd (σ t) 1 x) t 1), .int (gset σ t (upd (σ t) 1 x) t 2)]) (f := upd (σ t) 1 x) (ty := .int) K G ht.2 (gE_3 ht.1) (gE_3 ht.1) rfl inB3 tyX3 tyX3_ok nmX3 1 (by decide) hl rfl (by decide +kernel) rfl rfl (Nat.le_of_ble_eq_true rfl) (by simp [gset_at, upd]) hdg kk
theorem gg3_2 (K : gC X p s m args c cc nL own) (G : gG X σ s H locs) (ht : gkd t = 3 ∧ xlo X ≤ t ∧ t < xhi X) (hl : Cond.fieldLink own idx "TornPages$History" "size" "I" ∈ gBig) (hdg : decode cc pc = .ok (.getfield idx, 3)) (kk : W p l e R s m args below meth c H locs cells slots Q (F0 m (pc + 3) ls ((.int (σ t 2)) :: rest))) : W p l e R s m args below meth c H locs cells slots Q (F0 m pc ls (.ref (xN X + t) :: rest)) := g_get (C := RX3) (T := TX3) (N := 3) K G ht.2 (gE_3 ht.1) rfl inB3 2 (by decide) hl rfl hdg kk
theorem gp3_2 {x : Int32} (K : gC X p s m args c cc nL own) (G : gG X σ s H locs) (ht : gkd t = 3 ∧ xlo X ≤ t ∧ t < xhi X) (hl : Cond.fieldLink own idx "TornPages$History" "size" "I" ∈ gBig) (hdg : decode cc pc = .ok (.putfield idx, 3)) (kk : ∀ (H1 : Heap) (locs1 : List Loc), gG X (gset σ t (upd (σ t) 2 x)) s H1 locs1 → W p l e R s m args below meth c H1 locs1 cells slots Q (F0 m (pc + 3) ls rest)) : W p l e R s m args below meth c H locs cells slots Q (F0 m pc ls (.int x :: .ref (xN X + t) :: rest)) := g_put (C := RX3) (T := TX3) (N := 3) (fs := [gref X t 0 1, .int (σ t 1), .int (σ t 2)]) (fs' := [gref X t 0 1, .int (gset σ t (upd (σ t) 2 x) t 1), .int (gset σ t (upd (σ t) 2 x) t 2)]) (f := upd (σ t) 2 x) (ty := .int) K G ht.2 (gE_3 ht.1) (gE_3 ht.1) rfl inB3 tyX3 tyX3_ok nmX3 2 (by decide) hl rfl (by decide +kernel) rfl rfl (Nat.le_of_ble_eq_true rfl) (by simp [gset_at, upd]) hdg kk
theorem gg4_0 (K : gC X p s m args c cc nL own) (G : gG X σ s H locs) (ht : gkd t = 4 ∧ xlo X ≤ t ∧ t < xhi X) (hst : xst X t 0 = true) (hl : Cond.fieldLink own idx "TornPages$Page" "places" "LTornPages$Row;" ∈ gBig) (hdg : decode cc pc = .ok (.getfield idx, 3)) (kk : W p l e R s m args below meth c H locs cells slots Q (F0 m (pc + 3) ls ((.ref (xN X + (t + 1))) :: rest))) : W p l e R s m args below meth c H locs cells slots Q (F0 m pc ls (.ref (xN X + t) :: rest)) := g_get (C := RX4) (T := TX4) (N := 5) K G ht.2 (gE_4 ht.1) rfl inB4 0 (by decide) hl (by show some (gref X t 0 1) = some _; rw [gref, if_pos hst]) hdg kk
theorem gg4_1 (K : gC X p s m args c cc nL own) (G : gG X σ s H locs) (ht : gkd t = 4 ∧ xlo X ≤ t ∧ t < xhi X) (hst : xst X t 1 = true) (hl : Cond.fieldLink own idx "TornPages$Page" "orientations" "LTornPages$Row;" ∈ gBig) (hdg : decode cc pc = .ok (.getfield idx, 3)) (kk : W p l e R s m args below meth c H locs cells slots Q (F0 m (pc + 3) ls ((.ref (xN X + (t + 3))) :: rest))) : W p l e R s m args below meth c H locs cells slots Q (F0 m pc ls (.ref (xN X + t) :: rest)) := g_get (C := RX4) (T := TX4) (N := 5) K G ht.2 (gE_4 ht.1) rfl inB4 1 (by decide) hl (by show some (gref X t 1 3) = some _; rw [gref, if_pos hst]) hdg kk
theorem gg4_2 (K : gC X p s m args c cc nL own) (G : gG X σ s H locs) (ht : gkd t = 4 ∧ xlo X ≤ t ∧ t < xhi X) (hst : xst X t 2 = true) (hl : Cond.fieldLink own idx "TornPages$Page" "lying" "LTornPages$Row;" ∈ gBig) (hdg : decode cc pc = .ok (.getfield idx, 3)) (kk : W p l e R s m args below meth c H locs cells slots Q (F0 m (pc + 3) ls ((.ref (xN X + (t + 5))) :: rest))) : W p l e R s m args below meth c H locs cells slots Q (F0 m pc ls (.ref (xN X + t) :: rest)) := g_get (C := RX4) (T := TX4) (N := 5) K G ht.2 (gE_4 ht.1) rfl inB4 2 (by decide) hl (by show some (gref X t 2 5) = some _; rw [gref, if_pos hst]) hdg kk
theorem gg4_3 (K : gC X p s m args c cc nL own) (G : gG X σ s H locs) (ht : gkd t = 4 ∧ xlo X ≤ t ∧ t < xhi X) (hl : Cond.fieldLink own idx "TornPages$Page" "width" "I" ∈ gBig) (hdg : decode cc pc = .ok (.getfield idx, 3)) (kk : W p l e R s m args below meth c H locs cells slots Q (F0 m (pc + 3) ls ((.int (σ t 3)) :: rest))) : W p l e R s m args below meth c H locs cells slots Q (F0 m pc ls (.ref (xN X + t) :: rest)) := g_get (C := RX4) (T := TX4) (N := 5) K G ht.2 (gE_4 ht.1) rfl inB4 3 (by decide) hl rfl hdg kk
theorem gp4_3 {x : Int32} (K : gC X p s m args c cc nL own) (G : gG X σ s H locs) (ht : gkd t = 4 ∧ xlo X ≤ t ∧ t < xhi X) (hl : Cond.fieldLink own idx "TornPages$Page" "width" "I" ∈ gBig) (hdg : decode cc pc = .ok (.putfield idx, 3)) (kk : ∀ (H1 : Heap) (locs1 : List Loc), gG X (gset σ t (upd (σ t) 3 x)) s H1 locs1 → W p l e R s m args below meth c H1 locs1 cells slots Q (F0 m (pc + 3) ls rest)) : W p l e R s m args below meth c H locs cells slots Q (F0 m pc ls (.int x :: .ref (xN X + t) :: rest)) := g_put (C := RX4) (T := TX4) (N := 5) (fs := [gref X t 0 1, gref X t 1 3, gref X t 2 5, .int (σ t 3), .int (σ t 4)]) (fs' := [gref X t 0 1, gref X t 1 3, gref X t 2 5, .int (gset σ t (upd (σ t) 3 x) t 3), .int (gset σ t (upd (σ t) 3 x) t 4)]) (f := upd (σ t) 3 x) (ty := .int) K G ht.2 (gE_4 ht.1) (gE_4 ht.1) rfl inB4 tyX4 tyX4_ok nmX4 3 (by decide) hl rfl (by decide +kernel) rfl rfl (Nat.le_of_ble_eq_true rfl) (by simp [gset_at, upd]) hdg kk
theorem gg4_4 (K : gC X p s m args c cc nL own) (G : gG X σ s H locs) (ht : gkd t = 4 ∧ xlo X ≤ t ∧ t < xhi X) (hl : Cond.fieldLink own idx "TornPages$Page" "height" "I" ∈ gBig) (hdg : decode cc pc = .ok (.getfield idx, 3)) (kk : W p l e R s m args below meth c H locs cells slots Q (F0 m (pc + 3) ls ((.int (σ t 4)) :: rest))) : W p l e R s m args below meth c H locs cells slots Q (F0 m pc ls (.ref (xN X + t) :: rest)) := g_get (C := RX4) (T := TX4) (N := 5) K G ht.2 (gE_4 ht.1) rfl inB4 4 (by decide) hl rfl hdg kk
theorem gp4_4 {x : Int32} (K : gC X p s m args c cc nL own) (G : gG X σ s H locs) (ht : gkd t = 4 ∧ xlo X ≤ t ∧ t < xhi X) (hl : Cond.fieldLink own idx "TornPages$Page" "height" "I" ∈ gBig) (hdg : decode cc pc = .ok (.putfield idx, 3)) (kk : ∀ (H1 : Heap) (locs1 : List Loc), gG X (gset σ t (upd (σ t) 4 x)) s H1 locs1 → W p l e R s m args below meth c H1 locs1 cells slots Q (F0 m (pc + 3) ls rest)) : W p l e R s m args below meth c H locs cells slots Q (F0 m pc ls (.int x :: .ref (xN X + t) :: rest)) := g_put (C := RX4) (T := TX4) (N := 5) (fs := [gref X t 0 1, gref X t 1 3, gref X t 2 5, .int (σ t 3), .int (σ t 4)]) (fs' := [gref X t 0 1, gref X t 1 3, gref X t 2 5, .int (gset σ t (upd (σ t) 4 x) t 3), .int (gset σ t (upd (σ t) 4 x) t 4)]) (f := upd (σ t) 4 x) (ty := .int) K G ht.2 (gE_4 ht.1) (gE_4 ht.1) rfl inB4 tyX4 tyX4_ok nmX4 4 (by decide) hl rfl (by decide +kernel) rfl rfl (Nat.le_of_ble_eq_true rfl) (by simp [gset_at, upd]) hdg kk
theorem gg5_0 (K : gC X p s m args c cc nL own) (G : gG X σ s H locs) (ht : gkd t = 5 ∧ xlo X ≤ t ∧ t < xhi X) (hst : xst X t 0 = true) (hl : Cond.fieldLink own idx "TornPages$Row" "numbers" "[I" ∈ gBig) (hdg : decode cc pc = .ok (.getfield idx, 3)) (kk : W p l e R s m args below meth c H locs cells slots Q (F0 m (pc + 3) ls ((.ref (xN X + (t + 1))) :: rest))) : W p l e R s m args below meth c H locs cells slots Q (F0 m pc ls (.ref (xN X + t) :: rest)) := g_get (C := RX5) (T := TX5) (N := 1) K G ht.2 (gE_5 ht.1) rfl inB5 0 (by decide) hl (by show some (gref X t 0 1) = some _; rw [gref, if_pos hst]) hdg kk
theorem gg6_0 (K : gC X p s m args c cc nL own) (G : gG X σ s H locs) (ht : gkd t = 6 ∧ xlo X ≤ t ∧ t < xhi X) (hst : xst X t 0 = true) (hl : Cond.fieldLink own idx "TornPages$Scraps" "kinds" "LTornPages$Row;" ∈ gBig) (hdg : decode cc pc = .ok (.getfield idx, 3)) (kk : W p l e R s m args below meth c H locs cells slots Q (F0 m (pc + 3) ls ((.ref (xN X + (t + 1))) :: rest))) : W p l e R s m args below meth c H locs cells slots Q (F0 m pc ls (.ref (xN X + t) :: rest)) := g_get (C := RX6) (T := TX6) (N := 4) K G ht.2 (gE_6 ht.1) rfl inB6 0 (by decide) hl (by show some (gref X t 0 1) = some _; rw [gref, if_pos hst]) hdg kk
theorem gg6_1 (K : gC X p s m args c cc nL own) (G : gG X σ s H locs) (ht : gkd t = 6 ∧ xlo X ≤ t ∧ t < xhi X) (hst : xst X t 1 = true) (hl : Cond.fieldLink own idx "TornPages$Scraps" "profiles" "LTornPages$Row;" ∈ gBig) (hdg : decode cc pc = .ok (.getfield idx, 3)) (kk : W p l e R s m args below meth c H locs cells slots Q (F0 m (pc + 3) ls ((.ref (xN X + (t + 3))) :: rest))) : W p l e R s m args below meth c H locs cells slots Q (F0 m pc ls (.ref (xN X + t) :: rest)) := g_get (C := RX6) (T := TX6) (N := 4) K G ht.2 (gE_6 ht.1) rfl inB6 1 (by decide) hl (by show some (gref X t 1 3) = some _; rw [gref, if_pos hst]) hdg kk
theorem gg6_2 (K : gC X p s m args c cc nL own) (G : gG X σ s H locs) (ht : gkd t = 6 ∧ xlo X ≤ t ∧ t < xhi X) (hst : xst X t 2 = true) (hl : Cond.fieldLink own idx "TornPages$Scraps" "lines" "LTornPages$Row;" ∈ gBig) (hdg : decode cc pc = .ok (.getfield idx, 3)) (kk : W p l e R s m args below meth c H locs cells slots Q (F0 m (pc + 3) ls ((.ref (xN X + (t + 5))) :: rest))) : W p l e R s m args below meth c H locs cells slots Q (F0 m pc ls (.ref (xN X + t) :: rest)) := g_get (C := RX6) (T := TX6) (N := 4) K G ht.2 (gE_6 ht.1) rfl inB6 2 (by decide) hl (by show some (gref X t 2 5) = some _; rw [gref, if_pos hst]) hdg kk
theorem gg6_3 (K : gC X p s m args c cc nL own) (G : gG X σ s H locs) (ht : gkd t = 6 ∧ xlo X ≤ t ∧ t < xhi X) (hl : Cond.fieldLink own idx "TornPages$Scraps" "size" "I" ∈ gBig) (hdg : decode cc pc = .ok (.getfield idx, 3)) (kk : W p l e R s m args below meth c H locs cells slots Q (F0 m (pc + 3) ls ((.int (σ t 3)) :: rest))) : W p l e R s m args below meth c H locs cells slots Q (F0 m pc ls (.ref (xN X + t) :: rest)) := g_get (C := RX6) (T := TX6) (N := 4) K G ht.2 (gE_6 ht.1) rfl inB6 3 (by decide) hl rfl hdg kk
theorem gp6_3 {x : Int32} (K : gC X p s m args c cc nL own) (G : gG X σ s H locs) (ht : gkd t = 6 ∧ xlo X ≤ t ∧ t < xhi X) (hl : Cond.fieldLink own idx "TornPages$Scraps" "size" "I" ∈ gBig) (hdg : decode cc pc = .ok (.putfield idx, 3)) (kk : ∀ (H1 : Heap) (locs1 : List Loc), gG X (gset σ t (upd (σ t) 3 x)) s H1 locs1 → W p l e R s m args below meth c H1 locs1 cells slots Q (F0 m (pc + 3) ls rest)) : W p l e R s m args below meth c H locs cells slots Q (F0 m pc ls (.int x :: .ref (xN X + t) :: rest)) := g_put (C := RX6) (T := TX6) (N := 4) (fs := [gref X t 0 1, gref X t 1 3, gref X t 2 5, .int (σ t 3)]) (fs' := [gref X t 0 1, gref X t 1 3, gref X t 2 5, .int (gset σ t (upd (σ t) 3 x) t 3)]) (f := upd (σ t) 3 x) (ty := .int) K G ht.2 (gE_6 ht.1) (gE_6 ht.1) rfl inB6 tyX6 tyX6_ok nmX6 3 (by decide) hl rfl (by decide +kernel) rfl rfl (Nat.le_of_ble_eq_true rfl) (by simp [gset_at, upd]) hdg kk
theorem gg7_0 (K : gC X p s m args c cc nL own) (G : gG X σ s H locs) (ht : gkd t = 7 ∧ xlo X ≤ t ∧ t < xhi X) (hst : xst X t 0 = true) (hl : Cond.fieldLink own idx "TornPages$Text" "signs" "LTornPages$Row;" ∈ gBig) (hdg : decode cc pc = .ok (.getfield idx, 3)) (kk : W p l e R s m args below meth c H locs cells slots Q (F0 m (pc + 3) ls ((.ref (xN X + (t + 1))) :: rest))) : W p l e R s m args below meth c H locs cells slots Q (F0 m pc ls (.ref (xN X + t) :: rest)) := g_get (C := RX7) (T := TX7) (N := 5) K G ht.2 (gE_7 ht.1) rfl inB7 0 (by decide) hl (by show some (gref X t 0 1) = some _; rw [gref, if_pos hst]) hdg kk
theorem gg7_1 (K : gC X p s m args c cc nL own) (G : gG X σ s H locs) (ht : gkd t = 7 ∧ xlo X ≤ t ∧ t < xhi X) (hst : xst X t 1 = true) (hl : Cond.fieldLink own idx "TornPages$Text" "draft" "LTornPages$Draft;" ∈ gBig) (hdg : decode cc pc = .ok (.getfield idx, 3)) (kk : W p l e R s m args below meth c H locs cells slots Q (F0 m (pc + 3) ls ((.ref (xN X + (t + 3))) :: rest))) : W p l e R s m args below meth c H locs cells slots Q (F0 m pc ls (.ref (xN X + t) :: rest)) := g_get (C := RX7) (T := TX7) (N := 5) K G ht.2 (gE_7 ht.1) rfl inB7 1 (by decide) hl (by show some (gref X t 1 3) = some _; rw [gref, if_pos hst]) hdg kk
theorem gg7_2 (K : gC X p s m args c cc nL own) (G : gG X σ s H locs) (ht : gkd t = 7 ∧ xlo X ≤ t ∧ t < xhi X) (hl : Cond.fieldLink own idx "TornPages$Text" "length" "I" ∈ gBig) (hdg : decode cc pc = .ok (.getfield idx, 3)) (kk : W p l e R s m args below meth c H locs cells slots Q (F0 m (pc + 3) ls ((.int (σ t 2)) :: rest))) : W p l e R s m args below meth c H locs cells slots Q (F0 m pc ls (.ref (xN X + t) :: rest)) := g_get (C := RX7) (T := TX7) (N := 5) K G ht.2 (gE_7 ht.1) rfl inB7 2 (by decide) hl rfl hdg kk
theorem gp7_2 {x : Int32} (K : gC X p s m args c cc nL own) (G : gG X σ s H locs) (ht : gkd t = 7 ∧ xlo X ≤ t ∧ t < xhi X) (hl : Cond.fieldLink own idx "TornPages$Text" "length" "I" ∈ gBig) (hdg : decode cc pc = .ok (.putfield idx, 3)) (kk : ∀ (H1 : Heap) (locs1 : List Loc), gG X (gset σ t (upd (σ t) 2 x)) s H1 locs1 → W p l e R s m args below meth c H1 locs1 cells slots Q (F0 m (pc + 3) ls rest)) : W p l e R s m args below meth c H locs cells slots Q (F0 m pc ls (.int x :: .ref (xN X + t) :: rest)) := g_put (C := RX7) (T := TX7) (N := 5) (fs := [gref X t 0 1, gref X t 1 3, .int (σ t 2), .int (σ t 3), .int (σ t 4)]) (fs' := [gref X t 0 1, gref X t 1 3, .int (gset σ t (upd (σ t) 2 x) t 2), .int (gset σ t (upd (σ t) 2 x) t 3), .int (gset σ t (upd (σ t) 2 x) t 4)]) (f := upd (σ t) 2 x) (ty := .int) K G ht.2 (gE_7 ht.1) (gE_7 ht.1) rfl inB7 tyX7 tyX7_ok nmX7 2 (by decide) hl rfl (by decide +kernel) rfl rfl (Nat.le_of_ble_eq_true rfl) (by simp [gset_at, upd]) hdg kk
theorem gg7_3 (K : gC X p s m args c cc nL own) (G : gG X σ s H locs) (ht : gkd t = 7 ∧ xlo X ≤ t ∧ t < xhi X) (hl : Cond.fieldLink own idx "TornPages$Text" "position" "I" ∈ gBig) (hdg : decode cc pc = .ok (.getfield idx, 3)) (kk : W p l e R s m args below meth c H locs cells slots Q (F0 m (pc + 3) ls ((.int (σ t 3)) :: rest))) : W p l e R s m args below meth c H locs cells slots Q (F0 m pc ls (.ref (xN X + t) :: rest)) := g_get (C := RX7) (T := TX7) (N := 5) K G ht.2 (gE_7 ht.1) rfl inB7 3 (by decide) hl rfl hdg kk
theorem gp7_3 {x : Int32} (K : gC X p s m args c cc nL own) (G : gG X σ s H locs) (ht : gkd t = 7 ∧ xlo X ≤ t ∧ t < xhi X) (hl : Cond.fieldLink own idx "TornPages$Text" "position" "I" ∈ gBig) (hdg : decode cc pc = .ok (.putfield idx, 3)) (kk : ∀ (H1 : Heap) (locs1 : List Loc), gG X (gset σ t (upd (σ t) 3 x)) s H1 locs1 → W p l e R s m args below meth c H1 locs1 cells slots Q (F0 m (pc + 3) ls rest)) : W p l e R s m args below meth c H locs cells slots Q (F0 m pc ls (.int x :: .ref (xN X + t) :: rest)) := g_put (C := RX7) (T := TX7) (N := 5) (fs := [gref X t 0 1, gref X t 1 3, .int (σ t 2), .int (σ t 3), .int (σ t 4)]) (fs' := [gref X t 0 1, gref X t 1 3, .int (gset σ t (upd (σ t) 3 x) t 2), .int (gset σ t (upd (σ t) 3 x) t 3), .int (gset σ t (upd (σ t) 3 x) t 4)]) (f := upd (σ t) 3 x) (ty := .int) K G ht.2 (gE_7 ht.1) (gE_7 ht.1) rfl inB7 tyX7 tyX7_ok nmX7 3 (by decide) hl rfl (by decide +kernel) rfl rfl (Nat.le_of_ble_eq_true rfl) (by simp [gset_at, upd]) hdg kk
theorem gg7_4 (K : gC X p s m args c cc nL own) (G : gG X σ s H locs) (ht : gkd t = 7 ∧ xlo X ≤ t ∧ t < xhi X) (hl : Cond.fieldLink own idx "TornPages$Text" "sound" "Z" ∈ gBig) (hdg : decode cc pc = .ok (.getfield idx, 3)) (kk : W p l e R s m args below meth c H locs cells slots Q (F0 m (pc + 3) ls ((.int (σ t 4)) :: rest))) : W p l e R s m args below meth c H locs cells slots Q (F0 m pc ls (.ref (xN X + t) :: rest)) := g_get (C := RX7) (T := TX7) (N := 5) K G ht.2 (gE_7 ht.1) rfl inB7 4 (by decide) hl rfl hdg kk
theorem gp7_4 {x : Int32} (K : gC X p s m args c cc nL own) (G : gG X σ s H locs) (ht : gkd t = 7 ∧ xlo X ≤ t ∧ t < xhi X) (hl : Cond.fieldLink own idx "TornPages$Text" "sound" "Z" ∈ gBig) (hz : x = 0 ∨ x = 1) (hdg : decode cc pc = .ok (.putfield idx, 3)) (kk : ∀ (H1 : Heap) (locs1 : List Loc), gG X (gset σ t (upd (σ t) 4 x)) s H1 locs1 → W p l e R s m args below meth c H1 locs1 cells slots Q (F0 m (pc + 3) ls rest)) : W p l e R s m args below meth c H locs cells slots Q (F0 m pc ls (.int x :: .ref (xN X + t) :: rest)) := g_put (C := RX7) (T := TX7) (N := 5) (fs := [gref X t 0 1, gref X t 1 3, .int (σ t 2), .int (σ t 3), .int (σ t 4)]) (fs' := [gref X t 0 1, gref X t 1 3, .int (gset σ t (upd (σ t) 4 x) t 2), .int (gset σ t (upd (σ t) 4 x) t 3), .int (gset σ t (upd (σ t) 4 x) t 4)]) (f := upd (σ t) 4 x) (ty := .boolean) K G ht.2 (gE_7 ht.1) (gE_7 ht.1) rfl inB7 tyX7 tyX7_ok nmX7 4 (by decide) hl rfl (by decide +kernel) (g_z hz) (g_zf hz) (Nat.le_of_ble_eq_true rfl) (by simp [gset_at, upd]) hdg kk
theorem gg8_0 (K : gC X p s m args c cc nL own) (G : gG X σ s H locs) (ht : gkd t = 8 ∧ xlo X ≤ t ∧ t < xhi X) (hst : xst X t 0 = true) (hl : Cond.fieldLink own idx "TornPages" "desk" "LTornPages$Desk;" ∈ gBig) (hdg : decode cc pc = .ok (.getfield idx, 3)) (kk : W p l e R s m args below meth c H locs cells slots Q (F0 m (pc + 3) ls ((.ref (xN X + (t + 1))) :: rest))) : W p l e R s m args below meth c H locs cells slots Q (F0 m pc ls (.ref (xN X + t) :: rest)) := g_get (C := RX8) (T := TX8) (N := 6) K G ht.2 (gE_8 ht.1) rfl inB8 0 (by decide) hl (by show some (gref X t 0 1) = some _; rw [gref, if_pos hst]) hdg kk
theorem gg8_1 (K : gC X p s m args c cc nL own) (G : gG X σ s H locs) (ht : gkd t = 8 ∧ xlo X ≤ t ∧ t < xhi X) (hst : xst X t 1 = true) (hl : Cond.fieldLink own idx "TornPages" "trial" "LTornPages$Desk;" ∈ gBig) (hdg : decode cc pc = .ok (.getfield idx, 3)) (kk : W p l e R s m args below meth c H locs cells slots Q (F0 m (pc + 3) ls ((.ref (xN X + (t + 16))) :: rest))) : W p l e R s m args below meth c H locs cells slots Q (F0 m pc ls (.ref (xN X + t) :: rest)) := g_get (C := RX8) (T := TX8) (N := 6) K G ht.2 (gE_8 ht.1) rfl inB8 1 (by decide) hl (by show some (gref X t 1 16) = some _; rw [gref, if_pos hst]) hdg kk
theorem gg8_2 (K : gC X p s m args c cc nL own) (G : gG X σ s H locs) (ht : gkd t = 8 ∧ xlo X ≤ t ∧ t < xhi X) (hst : xst X t 2 = true) (hl : Cond.fieldLink own idx "TornPages" "history" "LTornPages$History;" ∈ gBig) (hdg : decode cc pc = .ok (.getfield idx, 3)) (kk : W p l e R s m args below meth c H locs cells slots Q (F0 m (pc + 3) ls ((.ref (xN X + (t + 31))) :: rest))) : W p l e R s m args below meth c H locs cells slots Q (F0 m pc ls (.ref (xN X + t) :: rest)) := g_get (C := RX8) (T := TX8) (N := 6) K G ht.2 (gE_8 ht.1) rfl inB8 2 (by decide) hl (by show some (gref X t 2 31) = some _; rw [gref, if_pos hst]) hdg kk
theorem gg8_3 (K : gC X p s m args c cc nL own) (G : gG X σ s H locs) (ht : gkd t = 8 ∧ xlo X ≤ t ∧ t < xhi X) (hst : xst X t 3 = true) (hl : Cond.fieldLink own idx "TornPages" "groups" "LTornPages$Groups;" ∈ gBig) (hdg : decode cc pc = .ok (.getfield idx, 3)) (kk : W p l e R s m args below meth c H locs cells slots Q (F0 m (pc + 3) ls ((.ref (xN X + (t + 108))) :: rest))) : W p l e R s m args below meth c H locs cells slots Q (F0 m pc ls (.ref (xN X + t) :: rest)) := g_get (C := RX8) (T := TX8) (N := 6) K G ht.2 (gE_8 ht.1) rfl inB8 3 (by decide) hl (by show some (gref X t 3 108) = some _; rw [gref, if_pos hst]) hdg kk
theorem gg8_4 (K : gC X p s m args c cc nL own) (G : gG X σ s H locs) (ht : gkd t = 8 ∧ xlo X ≤ t ∧ t < xhi X) (hst : xst X t 4 = true) (hl : Cond.fieldLink own idx "TornPages" "text" "LTornPages$Text;" ∈ gBig) (hdg : decode cc pc = .ok (.getfield idx, 3)) (kk : W p l e R s m args below meth c H locs cells slots Q (F0 m (pc + 3) ls ((.ref (xN X + (t + 111))) :: rest))) : W p l e R s m args below meth c H locs cells slots Q (F0 m pc ls (.ref (xN X + t) :: rest)) := g_get (C := RX8) (T := TX8) (N := 6) K G ht.2 (gE_8 ht.1) rfl inB8 4 (by decide) hl (by show some (gref X t 4 111) = some _; rw [gref, if_pos hst]) hdg kk
theorem gg8_5 (K : gC X p s m args c cc nL own) (G : gG X σ s H locs) (ht : gkd t = 8 ∧ xlo X ≤ t ∧ t < xhi X) (hst : xst X t 5 = true) (hl : Cond.fieldLink own idx "TornPages" "draft" "LTornPages$Draft;" ∈ gBig) (hdg : decode cc pc = .ok (.getfield idx, 3)) (kk : W p l e R s m args below meth c H locs cells slots Q (F0 m (pc + 3) ls ((.ref (xN X + (t + 119))) :: rest))) : W p l e R s m args below meth c H locs cells slots Q (F0 m pc ls (.ref (xN X + t) :: rest)) := g_get (C := RX8) (T := TX8) (N := 6) K G ht.2 (gE_8 ht.1) rfl inB8 5 (by decide) hl (by show some (gref X t 5 119) = some _; rw [gref, if_pos hst]) hdg kk
theorem gg9_0 (K : gC X p s m args c cc nL own) (G : gG X σ s H locs) (ht : gkd t = 9 ∧ xlo X ≤ t ∧ t < xhi X) (hst : xst X t 0 = true) (hl : Cond.fieldLink own idx "TornPagesModel" "d" "[I" ∈ gBig) (hdg : decode cc pc = .ok (.getfield idx, 3)) (kk : W p l e R s m args below meth c H locs cells slots Q (F0 m (pc + 3) ls ((.ref (xN X + (t + 1))) :: rest))) : W p l e R s m args below meth c H locs cells slots Q (F0 m pc ls (.ref (xN X + t) :: rest)) := g_get (C := RX9) (T := TX9) (N := 12) K G ht.2 (gE_9 ht.1) rfl inB9 0 (by decide) hl (by show some (gref X t 0 1) = some _; rw [gref, if_pos hst]) hdg kk
theorem gg9_1 (K : gC X p s m args c cc nL own) (G : gG X σ s H locs) (ht : gkd t = 9 ∧ xlo X ≤ t ∧ t < xhi X) (hst : xst X t 1 = true) (hl : Cond.fieldLink own idx "TornPagesModel" "was" "[I" ∈ gBig) (hdg : decode cc pc = .ok (.getfield idx, 3)) (kk : W p l e R s m args below meth c H locs cells slots Q (F0 m (pc + 3) ls ((.ref (xN X + (t + 2))) :: rest))) : W p l e R s m args below meth c H locs cells slots Q (F0 m pc ls (.ref (xN X + t) :: rest)) := g_get (C := RX9) (T := TX9) (N := 12) K G ht.2 (gE_9 ht.1) rfl inB9 1 (by decide) hl (by show some (gref X t 1 2) = some _; rw [gref, if_pos hst]) hdg kk
theorem gg9_2 (K : gC X p s m args c cc nL own) (G : gG X σ s H locs) (ht : gkd t = 9 ∧ xlo X ≤ t ∧ t < xhi X) (hl : Cond.fieldLink own idx "TornPagesModel" "states" "I" ∈ gBig) (hdg : decode cc pc = .ok (.getfield idx, 3)) (kk : W p l e R s m args below meth c H locs cells slots Q (F0 m (pc + 3) ls ((.int (σ t 2)) :: rest))) : W p l e R s m args below meth c H locs cells slots Q (F0 m pc ls (.ref (xN X + t) :: rest)) := g_get (C := RX9) (T := TX9) (N := 12) K G ht.2 (gE_9 ht.1) rfl inB9 2 (by decide) hl rfl hdg kk
theorem gp9_2 {x : Int32} (K : gC X p s m args c cc nL own) (G : gG X σ s H locs) (ht : gkd t = 9 ∧ xlo X ≤ t ∧ t < xhi X) (hl : Cond.fieldLink own idx "TornPagesModel" "states" "I" ∈ gBig) (hdg : decode cc pc = .ok (.putfield idx, 3)) (kk : ∀ (H1 : Heap) (locs1 : List Loc), gG X (gset σ t (upd (σ t) 2 x)) s H1 locs1 → W p l e R s m args below meth c H1 locs1 cells slots Q (F0 m (pc + 3) ls rest)) : W p l e R s m args below meth c H locs cells slots Q (F0 m pc ls (.int x :: .ref (xN X + t) :: rest)) := g_put (C := RX9) (T := TX9) (N := 12) (fs := [gref X t 0 1, gref X t 1 2, .int (σ t 2), gref X t 3 3, .int (σ t 4), gref X t 5 4, gref X t 6 5, gref X t 7 6, gref X t 8 7, .int (σ t 9), gref X t 10 8, gref X t 11 9]) (fs' := [gref X t 0 1, gref X t 1 2, .int (gset σ t (upd (σ t) 2 x) t 2), gref X t 3 3, .int (gset σ t (upd (σ t) 2 x) t 4), gref X t 5 4, gref X t 6 5, gref X t 7 6, gref X t 8 7, .int (gset σ t (upd (σ t) 2 x) t 9), gref X t 10 8, gref X t 11 9]) (f := upd (σ t) 2 x) (ty := .int) K G ht.2 (gE_9 ht.1) (gE_9 ht.1) rfl inB9 tyX9 tyX9_ok nmX9 2 (by decide) hl rfl (by decide +kernel) rfl rfl (Nat.le_of_ble_eq_true rfl) (by simp [gset_at, upd]) hdg kk
theorem gg9_3 (K : gC X p s m args c cc nL own) (G : gG X σ s H locs) (ht : gkd t = 9 ∧ xlo X ≤ t ∧ t < xhi X) (hst : xst X t 3 = true) (hl : Cond.fieldLink own idx "TornPagesModel" "text" "[C" ∈ gBig) (hdg : decode cc pc = .ok (.getfield idx, 3)) (kk : W p l e R s m args below meth c H locs cells slots Q (F0 m (pc + 3) ls ((.ref (xN X + (t + 3))) :: rest))) : W p l e R s m args below meth c H locs cells slots Q (F0 m pc ls (.ref (xN X + t) :: rest)) := g_get (C := RX9) (T := TX9) (N := 12) K G ht.2 (gE_9 ht.1) rfl inB9 3 (by decide) hl (by show some (gref X t 3 3) = some _; rw [gref, if_pos hst]) hdg kk
theorem gg9_4 (K : gC X p s m args c cc nL own) (G : gG X σ s H locs) (ht : gkd t = 9 ∧ xlo X ≤ t ∧ t < xhi X) (hl : Cond.fieldLink own idx "TornPagesModel" "typed" "I" ∈ gBig) (hdg : decode cc pc = .ok (.getfield idx, 3)) (kk : W p l e R s m args below meth c H locs cells slots Q (F0 m (pc + 3) ls ((.int (σ t 4)) :: rest))) : W p l e R s m args below meth c H locs cells slots Q (F0 m pc ls (.ref (xN X + t) :: rest)) := g_get (C := RX9) (T := TX9) (N := 12) K G ht.2 (gE_9 ht.1) rfl inB9 4 (by decide) hl rfl hdg kk
theorem gp9_4 {x : Int32} (K : gC X p s m args c cc nL own) (G : gG X σ s H locs) (ht : gkd t = 9 ∧ xlo X ≤ t ∧ t < xhi X) (hl : Cond.fieldLink own idx "TornPagesModel" "typed" "I" ∈ gBig) (hdg : decode cc pc = .ok (.putfield idx, 3)) (kk : ∀ (H1 : Heap) (locs1 : List Loc), gG X (gset σ t (upd (σ t) 4 x)) s H1 locs1 → W p l e R s m args below meth c H1 locs1 cells slots Q (F0 m (pc + 3) ls rest)) : W p l e R s m args below meth c H locs cells slots Q (F0 m pc ls (.int x :: .ref (xN X + t) :: rest)) := g_put (C := RX9) (T := TX9) (N := 12) (fs := [gref X t 0 1, gref X t 1 2, .int (σ t 2), gref X t 3 3, .int (σ t 4), gref X t 5 4, gref X t 6 5, gref X t 7 6, gref X t 8 7, .int (σ t 9), gref X t 10 8, gref X t 11 9]) (fs' := [gref X t 0 1, gref X t 1 2, .int (gset σ t (upd (σ t) 4 x) t 2), gref X t 3 3, .int (gset σ t (upd (σ t) 4 x) t 4), gref X t 5 4, gref X t 6 5, gref X t 7 6, gref X t 8 7, .int (gset σ t (upd (σ t) 4 x) t 9), gref X t 10 8, gref X t 11 9]) (f := upd (σ t) 4 x) (ty := .int) K G ht.2 (gE_9 ht.1) (gE_9 ht.1) rfl inB9 tyX9 tyX9_ok nmX9 4 (by decide) hl rfl (by decide +kernel) rfl rfl (Nat.le_of_ble_eq_true rfl) (by simp [gset_at, upd]) hdg kk
theorem gg9_5 (K : gC X p s m args c cc nL own) (G : gG X σ s H locs) (ht : gkd t = 9 ∧ xlo X ≤ t ∧ t < xhi X) (hst : xst X t 5 = true) (hl : Cond.fieldLink own idx "TornPagesModel" "edges" "[I" ∈ gBig) (hdg : decode cc pc = .ok (.getfield idx, 3)) (kk : W p l e R s m args below meth c H locs cells slots Q (F0 m (pc + 3) ls ((.ref (xN X + (t + 4))) :: rest))) : W p l e R s m args below meth c H locs cells slots Q (F0 m pc ls (.ref (xN X + t) :: rest)) := g_get (C := RX9) (T := TX9) (N := 12) K G ht.2 (gE_9 ht.1) rfl inB9 5 (by decide) hl (by show some (gref X t 5 4) = some _; rw [gref, if_pos hst]) hdg kk
theorem gg9_6 (K : gC X p s m args c cc nL own) (G : gG X σ s H locs) (ht : gkd t = 9 ∧ xlo X ≤ t ∧ t < xhi X) (hst : xst X t 6 = true) (hl : Cond.fieldLink own idx "TornPagesModel" "lines" "[I" ∈ gBig) (hdg : decode cc pc = .ok (.getfield idx, 3)) (kk : W p l e R s m args below meth c H locs cells slots Q (F0 m (pc + 3) ls ((.ref (xN X + (t + 5))) :: rest))) : W p l e R s m args below meth c H locs cells slots Q (F0 m pc ls (.ref (xN X + t) :: rest)) := g_get (C := RX9) (T := TX9) (N := 12) K G ht.2 (gE_9 ht.1) rfl inB9 6 (by decide) hl (by show some (gref X t 6 5) = some _; rw [gref, if_pos hst]) hdg kk
theorem gg9_7 (K : gC X p s m args c cc nL own) (G : gG X σ s H locs) (ht : gkd t = 9 ∧ xlo X ≤ t ∧ t < xhi X) (hst : xst X t 7 = true) (hl : Cond.fieldLink own idx "TornPagesModel" "read" "[I" ∈ gBig) (hdg : decode cc pc = .ok (.getfield idx, 3)) (kk : W p l e R s m args below meth c H locs cells slots Q (F0 m (pc + 3) ls ((.ref (xN X + (t + 6))) :: rest))) : W p l e R s m args below meth c H locs cells slots Q (F0 m pc ls (.ref (xN X + t) :: rest)) := g_get (C := RX9) (T := TX9) (N := 12) K G ht.2 (gE_9 ht.1) rfl inB9 7 (by decide) hl (by show some (gref X t 7 6) = some _; rw [gref, if_pos hst]) hdg kk
theorem gg9_8 (K : gC X p s m args c cc nL own) (G : gG X σ s H locs) (ht : gkd t = 9 ∧ xlo X ≤ t ∧ t < xhi X) (hst : xst X t 8 = true) (hl : Cond.fieldLink own idx "TornPagesModel" "group" "[I" ∈ gBig) (hdg : decode cc pc = .ok (.getfield idx, 3)) (kk : W p l e R s m args below meth c H locs cells slots Q (F0 m (pc + 3) ls ((.ref (xN X + (t + 7))) :: rest))) : W p l e R s m args below meth c H locs cells slots Q (F0 m pc ls (.ref (xN X + t) :: rest)) := g_get (C := RX9) (T := TX9) (N := 12) K G ht.2 (gE_9 ht.1) rfl inB9 8 (by decide) hl (by show some (gref X t 8 7) = some _; rw [gref, if_pos hst]) hdg kk
theorem gg9_9 (K : gC X p s m args c cc nL own) (G : gG X σ s H locs) (ht : gkd t = 9 ∧ xlo X ≤ t ∧ t < xhi X) (hl : Cond.fieldLink own idx "TornPagesModel" "groups" "I" ∈ gBig) (hdg : decode cc pc = .ok (.getfield idx, 3)) (kk : W p l e R s m args below meth c H locs cells slots Q (F0 m (pc + 3) ls ((.int (σ t 9)) :: rest))) : W p l e R s m args below meth c H locs cells slots Q (F0 m pc ls (.ref (xN X + t) :: rest)) := g_get (C := RX9) (T := TX9) (N := 12) K G ht.2 (gE_9 ht.1) rfl inB9 9 (by decide) hl rfl hdg kk
theorem gp9_9 {x : Int32} (K : gC X p s m args c cc nL own) (G : gG X σ s H locs) (ht : gkd t = 9 ∧ xlo X ≤ t ∧ t < xhi X) (hl : Cond.fieldLink own idx "TornPagesModel" "groups" "I" ∈ gBig) (hdg : decode cc pc = .ok (.putfield idx, 3)) (kk : ∀ (H1 : Heap) (locs1 : List Loc), gG X (gset σ t (upd (σ t) 9 x)) s H1 locs1 → W p l e R s m args below meth c H1 locs1 cells slots Q (F0 m (pc + 3) ls rest)) : W p l e R s m args below meth c H locs cells slots Q (F0 m pc ls (.int x :: .ref (xN X + t) :: rest)) := g_put (C := RX9) (T := TX9) (N := 12) (fs := [gref X t 0 1, gref X t 1 2, .int (σ t 2), gref X t 3 3, .int (σ t 4), gref X t 5 4, gref X t 6 5, gref X t 7 6, gref X t 8 7, .int (σ t 9), gref X t 10 8, gref X t 11 9]) (fs' := [gref X t 0 1, gref X t 1 2, .int (gset σ t (upd (σ t) 9 x) t 2), gref X t 3 3, .int (gset σ t (upd (σ t) 9 x) t 4), gref X t 5 4, gref X t 6 5, gref X t 7 6, gref X t 8 7, .int (gset σ t (upd (σ t) 9 x) t 9), gref X t 10 8, gref X t 11 9]) (f := upd (σ t) 9 x) (ty := .int) K G ht.2 (gE_9 ht.1) (gE_9 ht.1) rfl inB9 tyX9 tyX9_ok nmX9 9 (by decide) hl rfl (by decide +kernel) rfl rfl (Nat.le_of_ble_eq_true rfl) (by simp [gset_at, upd]) hdg kk
theorem gg9_10 (K : gC X p s m args c cc nL own) (G : gG X σ s H locs) (ht : gkd t = 9 ∧ xlo X ≤ t ∧ t < xhi X) (hst : xst X t 10 = true) (hl : Cond.fieldLink own idx "TornPagesModel" "tried" "[I" ∈ gBig) (hdg : decode cc pc = .ok (.getfield idx, 3)) (kk : W p l e R s m args below meth c H locs cells slots Q (F0 m (pc + 3) ls ((.ref (xN X + (t + 8))) :: rest))) : W p l e R s m args below meth c H locs cells slots Q (F0 m pc ls (.ref (xN X + t) :: rest)) := g_get (C := RX9) (T := TX9) (N := 12) K G ht.2 (gE_9 ht.1) rfl inB9 10 (by decide) hl (by show some (gref X t 10 8) = some _; rw [gref, if_pos hst]) hdg kk
theorem gg9_11 (K : gC X p s m args c cc nL own) (G : gG X σ s H locs) (ht : gkd t = 9 ∧ xlo X ≤ t ∧ t < xhi X) (hst : xst X t 11 = true) (hl : Cond.fieldLink own idx "TornPagesModel" "aside" "[I" ∈ gBig) (hdg : decode cc pc = .ok (.getfield idx, 3)) (kk : W p l e R s m args below meth c H locs cells slots Q (F0 m (pc + 3) ls ((.ref (xN X + (t + 9))) :: rest))) : W p l e R s m args below meth c H locs cells slots Q (F0 m pc ls (.ref (xN X + t) :: rest)) := g_get (C := RX9) (T := TX9) (N := 12) K G ht.2 (gE_9 ht.1) rfl inB9 11 (by decide) hl (by show some (gref X t 11 9) = some _; rw [gref, if_pos hst]) hdg kk
end ROWS
end
section
def fJ7_fill_53178_5 (o1 : Nat) (a2 : Int32) : Nat → gM → Int32 → Int32 → Option (gM)
  | 0, _, _, _ => none
  | n + 1, σ, x2, x3 =>
    (if x3 ≤ x2 then
      some σ
    else
      (if ¬ (x2 < 0 ∨ gln o1 ≤ x2.toNatClampNeg) then
      (gl (gset σ o1 (upd (σ o1) x2.toNatClampNeg a2)) fun σ4 =>
      (gl (x2 + 1) fun w5 =>
      fJ7_fill_53178_5 o1 a2 n σ4 w5 x3))
      else none))

def fJ7_fill_53178 (σ : gM) (o1 : Nat) (a2 : Int32) : Option (gM) :=
  (gl (nI (gln o1)) fun w1 =>
  fJ7_fill_53178_5 o1 a2 gF σ 0 w1)
set_option maxHeartbeats 4000000 in
set_option maxRecDepth 100000 in
theorem mJ7_fill_53178 (l : Launch) (X : gX) (σ σ' : gM) (o1 : Nat) (a2 : Int32) (ok1 : (gkd o1 = 10 ∧ xlo X ≤ o1 ∧ o1 < xhi X)) (h : fJ7_fill_53178 σ o1 a2 = some σ') : Met l yJ7_fill_53178 (Cond.code yJ7_fill_53178 cJ7_fill_53178 4 none :: gBig) ({ frames := 0, cells := 0, slots := 0, locals := 0 }) (gPc X σ [.ref (xN X + o1), .int a2]) (gQv X σ') 0 0 (xA X) := by
  refine g_metv (cc := cJ7_fill_53178) (maxL := 4) (own := RJ7) (by decide) rfl rfl (Nat.le_of_ble_eq_true rfl) ?_
  intro p ev s m args below meth c Q C G ret ls hl
  obtain ⟨⟨hx, hb, hml, hown, hts⟩, hK⟩ := id C
  have hl : lv_has ls 4 [(0, .ref (xN X + o1)), (1, .int a2)] := hl
  have L5 : ∀ (n : Nat) (H : Heap) (locs : List Loc) (ls : Array Slot) (σ : gM) (x2 : Int32) (x3 : Int32), gG X σ s H locs → lv_has ls 4 [(0, .ref (xN X + o1)), (1, .int a2), (2, .int x2), (3, .int x3)] → fJ7_fill_53178_5 o1 a2 n σ x2 x3 = some σ' → W p l ev ({ frames := 0, cells := 0, slots := 0, locals := 0 }) s m args below meth c H locs 0 0 Q (F0 m 5 ls []) := by
    intro n
    induction n with
    | zero =>
      intro H locs ls σ x2 x3 G hl h
      rw [fJ7_fill_53178_5] at h
      cases h
    | succ n ih =>
      intro H locs ls σ x2 x3 G hl h
      rw [fJ7_fill_53178_5] at h
      refine lv_iload_n hx hb dJ7_fill_53178_5 rfl (lv_at hl 2 rfl) ?_
      refine lv_iload_n hx hb dJ7_fill_53178_6 rfl (lv_at hl 3 rfl) ?_
      refine lv_icmp_ge (tgt := 20) hx hb dJ7_fill_53178_7 (by decide) (fun c2 => ?_) (fun c2 => ?_)
      · have h := g_it h c2
        exact ret dJ7_fill_53178_20 G (Option.some.inj h)
      · have h := g_if h c2
        refine lv_aload_n hx hb dJ7_fill_53178_10 rfl (lv_at hl 0 rfl) ?_
        refine lv_iload_n hx hb dJ7_fill_53178_11 rfl (lv_at hl 2 rfl) ?_
        refine lv_iload_n hx hb dJ7_fill_53178_12 rfl (lv_at hl 1 rfl) ?_
        obtain ⟨c3, h⟩ := g_chk h
        obtain ⟨σ4, e_σ4, h⟩ := g_let h
        refine g_iast C G ok1 c3 dJ7_fill_53178_13 (fun H locs G => ?_)
        rw [e_σ4] at G
        obtain ⟨w5, e_w5⟩ : ∃ y : Int32, y = x2 + 1 := ⟨_, rfl⟩
        have h := g_let2 e_w5 h
        refine lv_iinc (v := w5) (lv' := [(2, .int w5), (0, .ref (xN X + o1)), (1, .int a2), (3, .int x3)]) hx hb dJ7_fill_53178_14 hl (k := 2) rfl (by rw [e_w5]; rfl) (by decide) rfl (fun ls hl => ?_)
        refine lv_goto (tgt := 5) hx hb dJ7_fill_53178_17 (by decide) ?_
        exact ih _ _ _ σ4 w5 x3 G (lv_sub hl [1, 2, 0, 3] rfl) h
  unfold fJ7_fill_53178 at h
  refine lv_iconst (v := 0) hx hb dJ7_fill_53178_0 (by decide) ?_
  refine lv_istore_n (lv' := [(2, .int 0), (0, .ref (xN X + o1)), (1, .int a2)]) hx hb dJ7_fill_53178_1 rfl hl (by decide) rfl (fun ls hl => ?_)
  refine lv_aload_n hx hb dJ7_fill_53178_2 rfl (lv_at hl 1 rfl) ?_
  refine g_alen C G ok1 dJ7_fill_53178_3 ?_
  refine lv_topi (fun w1 e_w1 => ?_)
  have h := g_let2 e_w1 h
  refine lv_istore_n (lv' := [(3, .int w1), (2, .int 0), (0, .ref (xN X + o1)), (1, .int a2)]) hx hb dJ7_fill_53178_4 rfl hl (by decide) rfl (fun ls hl => ?_)
  exact L5  gF _ _ _ σ 0 w1 G (lv_sub hl [2, 3, 1, 0] rfl) h

def fX5_setAll (σ : gM) (t : Nat) (a1 : Int32) : Option (gM) :=
  ((fJ7_fill_53178 σ (t + 1) a1).bind fun σ2 =>
  some σ2)
set_option maxHeartbeats 4000000 in
set_option maxRecDepth 100000 in
theorem mX5_setAll (l : Launch) (X : gX) (σ σ' : gM) (t : Nat) (a1 : Int32) (ok : gok5 X t) (h : fX5_setAll σ t a1 = some σ') : Met l yX5_setAll (Cond.code yX5_setAll cX5_setAll 2 none :: gBig) ({ frames := 1, cells := 0, slots := 0, locals := 23 }) (gPc X σ [.ref (xN X + t), .int a1]) (gQv X σ') 0 0 (xA X) := by
  refine g_metv (cc := cX5_setAll) (maxL := 2) (own := RX5) (by decide) rfl rfl (Nat.le_of_ble_eq_true rfl) ?_
  intro p ev s m args below meth c Q C G ret ls hl
  obtain ⟨⟨hx, hb, hml, hown, hts⟩, hK⟩ := id C
  have hl : lv_has ls 2 [(0, .ref (xN X + t)), (1, .int a1)] := hl
  unfold fX5_setAll at h
  refine lv_aload_n hx hb dX5_setAll_0 rfl (lv_at hl 0 rfl) ?_
  refine gg5_0 C G ok.1 ok.2.1 u_fl_RX5_15 dX5_setAll_1 ?_
  refine lv_iload_n hx hb dX5_setAll_4 rfl (lv_at hl 1 rfl) ?_
  obtain ⟨σ2, e_σ2, h⟩ := g_bind h
  refine g_callv (g_runS (n := 2) (As := [.ref (xN X + (t + 1)), .int a1]) (rest := []) C G (mJ7_fill_53178 l X σ σ2 (t + 1) a1 ok.2.2 e_σ2) (g_goodS u_ml_RX5_21 u_st_yJ7_fill_53178 u_in_RJ7 u_co_yJ7_fill_53178) rfl rfl rfl (by decide +kernel) ⟨Nat.le_of_ble_eq_true rfl, Nat.le_of_ble_eq_true rfl⟩ rfl hl.1 rfl (Nat.le_of_ble_eq_true rfl) dX5_setAll_5 ⟨Nat.zero_le _, Nat.zero_le _⟩) G (fun H locs G => ?_)
  exact ret dX5_setAll_8 G (Option.some.inj h)

def fX4_clear (σ : gM) (t : Nat) (a1 : Int32) (a2 : Int32) : Option (gM) :=
  (gl (gset σ t (upd (σ t) 3 a1)) fun σ1 =>
  (gl (gset σ1 t (upd (σ1 t) 4 a2)) fun σ2 =>
  ((fX5_setAll σ2 (t + 1) (-1)).bind fun σ4 =>
  ((fX5_setAll σ4 (t + 3) 0).bind fun σ6 =>
  ((fX5_setAll σ6 (t + 5) (-1)).bind fun σ8 =>
  some σ8)))))
set_option maxHeartbeats 4000000 in
set_option maxRecDepth 100000 in
theorem mX4_clear (l : Launch) (X : gX) (σ σ' : gM) (t : Nat) (a1 : Int32) (a2 : Int32) (ok : gok4 X t) (h : fX4_clear σ t a1 a2 = some σ') : Met l yX4_clear (Cond.code yX4_clear cX4_clear 3 none :: gBig) ({ frames := 2, cells := 0, slots := 0, locals := 44 }) (gPc X σ [.ref (xN X + t), .int a1, .int a2]) (gQv X σ') 0 0 (xA X) := by
  refine g_metv (cc := cX4_clear) (maxL := 3) (own := RX4) (by decide) rfl rfl (Nat.le_of_ble_eq_true rfl) ?_
  intro p ev s m args below meth c Q C G ret ls hl
  obtain ⟨⟨hx, hb, hml, hown, hts⟩, hK⟩ := id C
  have hl : lv_has ls 3 [(0, .ref (xN X + t)), (1, .int a1), (2, .int a2)] := hl
  unfold fX4_clear at h
  refine lv_aload_n hx hb dX4_clear_0 rfl (lv_at hl 0 rfl) ?_
  refine lv_iload_n hx hb dX4_clear_1 rfl (lv_at hl 1 rfl) ?_
  obtain ⟨σ1, e_σ1, h⟩ := g_let h
  refine gp4_3 C G ok.1 u_fl_RX4_30 dX4_clear_2 (fun H locs G => ?_)
  rw [e_σ1] at G
  refine lv_aload_n hx hb dX4_clear_5 rfl (lv_at hl 0 rfl) ?_
  refine lv_iload_n hx hb dX4_clear_6 rfl (lv_at hl 2 rfl) ?_
  obtain ⟨σ2, e_σ2, h⟩ := g_let h
  refine gp4_4 C G ok.1 u_fl_RX4_34 dX4_clear_7 (fun H locs G => ?_)
  rw [e_σ2] at G
  refine lv_aload_n hx hb dX4_clear_10 rfl (lv_at hl 0 rfl) ?_
  refine gg4_0 C G ok.1 ok.2.1.1 u_fl_RX4_14 dX4_clear_11 ?_
  refine lv_iconst (v := (-1)) hx hb dX4_clear_14 (by decide) ?_
  obtain ⟨σ4, e_σ4, h⟩ := g_bind h
  refine g_callv (g_runV (n := 1) (As := [.int (-1)]) (rest := []) C G (mX5_setAll l X σ2 σ4 (t + 1) (-1) ok.2.2.1 e_σ4) ok.2.2.1.1.2 (gE_5 ok.2.2.1.1.1) rfl (g_goodV u_ml_RX4_41 u_im_yX5_setAll u_se_yX5_setAll u_in_RX5 u_co_yX5_setAll) rfl rfl rfl (by decide +kernel) ⟨Nat.le_of_ble_eq_true rfl, Nat.le_of_ble_eq_true rfl⟩ rfl hl.1 rfl (Nat.le_of_ble_eq_true rfl) dX4_clear_15 ⟨Nat.zero_le _, Nat.zero_le _⟩) G (fun H locs G => ?_)
  refine lv_aload_n hx hb dX4_clear_18 rfl (lv_at hl 0 rfl) ?_
  refine gg4_1 C G ok.1 ok.2.1.2.1 u_fl_RX4_20 dX4_clear_19 ?_
  refine lv_iconst (v := 0) hx hb dX4_clear_22 (by decide) ?_
  obtain ⟨σ6, e_σ6, h⟩ := g_bind h
  refine g_callv (g_runV (n := 1) (As := [.int 0]) (rest := []) C G (mX5_setAll l X σ4 σ6 (t + 3) 0 ok.2.2.2.1 e_σ6) ok.2.2.2.1.1.2 (gE_5 ok.2.2.2.1.1.1) rfl (g_goodV u_ml_RX4_41 u_im_yX5_setAll u_se_yX5_setAll u_in_RX5 u_co_yX5_setAll) rfl rfl rfl (by decide +kernel) ⟨Nat.le_of_ble_eq_true rfl, Nat.le_of_ble_eq_true rfl⟩ rfl hl.1 rfl (Nat.le_of_ble_eq_true rfl) dX4_clear_23 ⟨Nat.zero_le _, Nat.zero_le _⟩) G (fun H locs G => ?_)
  refine lv_aload_n hx hb dX4_clear_26 rfl (lv_at hl 0 rfl) ?_
  refine gg4_2 C G ok.1 ok.2.1.2.2 u_fl_RX4_23 dX4_clear_27 ?_
  refine lv_iconst (v := (-1)) hx hb dX4_clear_30 (by decide) ?_
  obtain ⟨σ8, e_σ8, h⟩ := g_bind h
  refine g_callv (g_runV (n := 1) (As := [.int (-1)]) (rest := []) C G (mX5_setAll l X σ6 σ8 (t + 5) (-1) ok.2.2.2.2 e_σ8) ok.2.2.2.2.1.2 (gE_5 ok.2.2.2.2.1.1) rfl (g_goodV u_ml_RX4_41 u_im_yX5_setAll u_se_yX5_setAll u_in_RX5 u_co_yX5_setAll) rfl rfl rfl (by decide +kernel) ⟨Nat.le_of_ble_eq_true rfl, Nat.le_of_ble_eq_true rfl⟩ rfl hl.1 rfl (Nat.le_of_ble_eq_true rfl) dX4_clear_31 ⟨Nat.zero_le _, Nat.zero_le _⟩) G (fun H locs G => ?_)
  exact ret dX4_clear_34 G (Option.some.inj h)

def fX8_isWithin (σ : gM) (a1 : Int32) (a2 : Int32) (a3 : Int32) : Option (Int32) :=
  (if a1 < a2 then
    some 0
  else
    (if a3 < a1 then
      some 0
    else
      some 1))
set_option maxHeartbeats 4000000 in
set_option maxRecDepth 100000 in
theorem mX8_isWithin (l : Launch) (X : gX) (σ : gM) (a1 : Int32) (a2 : Int32) (a3 : Int32) (r : Int32) (h : fX8_isWithin σ a1 a2 a3 = some r) : Met l yX8_isWithin (Cond.code yX8_isWithin cX8_isWithin 3 (some .boolean) :: gBig) ({ frames := 0, cells := 0, slots := 0, locals := 0 }) (gPc X σ [.int a1, .int a2, .int a3]) (gQi X σ r) 0 0 (xA X) := by
  refine g_meti (cc := cX8_isWithin) (maxL := 3) (own := RX8) (by decide) rfl rfl (Nat.le_of_ble_eq_true rfl) ?_
  intro p ev s m args below meth c Q C G ret ls hl
  obtain ⟨⟨hx, hb, hml, hown, hts⟩, hK⟩ := id C
  have hl : lv_has ls 3 [(0, .int a1), (1, .int a2), (2, .int a3)] := hl
  unfold fX8_isWithin at h
  refine lv_iload_n hx hb dX8_isWithin_0 rfl (lv_at hl 1 rfl) ?_
  refine lv_iload_n hx hb dX8_isWithin_1 rfl (lv_at hl 0 rfl) ?_
  refine lv_icmp_gt (tgt := 14) hx hb dX8_isWithin_2 (by decide) (fun c1 => ?_) (fun c1 => ?_)
  · have h := g_it h c1
    refine lv_iconst (v := 0) hx hb dX8_isWithin_14 (by decide) ?_
    exact ret dX8_isWithin_15 rfl G ⟨Option.some.inj h, rfl⟩
  · have h := g_if h c1
    refine lv_iload_n hx hb dX8_isWithin_5 rfl (lv_at hl 0 rfl) ?_
    refine lv_iload_n hx hb dX8_isWithin_6 rfl (lv_at hl 2 rfl) ?_
    refine lv_icmp_gt (tgt := 14) hx hb dX8_isWithin_7 (by decide) (fun c2 => ?_) (fun c2 => ?_)
    · have h := g_it h c2
      refine lv_iconst (v := 0) hx hb dX8_isWithin_14 (by decide) ?_
      exact ret dX8_isWithin_15 rfl G ⟨Option.some.inj h, rfl⟩
    · have h := g_if h c2
      refine lv_iconst (v := 1) hx hb dX8_isWithin_10 (by decide) ?_
      refine lv_goto (tgt := 15) hx hb dX8_isWithin_11 (by decide) ?_
      exact ret dX8_isWithin_15 rfl G ⟨Option.some.inj h, rfl⟩

def fX6_size (σ : gM) (t : Nat) : Option (Int32) :=
  some (σ t 3)
set_option maxHeartbeats 4000000 in
set_option maxRecDepth 100000 in
theorem mX6_size (l : Launch) (X : gX) (σ : gM) (t : Nat) (r : Int32) (ok : gok6 X t) (h : fX6_size σ t = some r) : Met l yX6_size (Cond.code yX6_size cX6_size 1 (some .int) :: gBig) ({ frames := 0, cells := 0, slots := 0, locals := 0 }) (gPc X σ [.ref (xN X + t)]) (gQi X σ r) 0 0 (xA X) := by
  refine g_meti (cc := cX6_size) (maxL := 1) (own := RX6) (by decide) rfl rfl (Nat.le_of_ble_eq_true rfl) ?_
  intro p ev s m args below meth c Q C G ret ls hl
  obtain ⟨⟨hx, hb, hml, hown, hts⟩, hK⟩ := id C
  have hl : lv_has ls 1 [(0, .ref (xN X + t))] := hl
  unfold fX6_size at h
  refine lv_aload_n hx hb dX6_size_0 rfl (lv_at hl 0 rfl) ?_
  refine gg6_3 C G ok.1 u_fl_RX6_26 dX6_size_1 ?_
  exact ret dX6_size_4 rfl G ⟨Option.some.inj h, rfl⟩

def fX5_get (σ : gM) (t : Nat) (a1 : Int32) : Option (Int32) :=
  (if a1 < 0 then
    some (-1)
  else
    (if (nI (gln (t + 1))) ≤ a1 then
      some (-1)
    else
      (if ¬ (a1 < 0 ∨ gln (t + 1) ≤ a1.toNatClampNeg) then
      some (σ (t + 1) a1.toNatClampNeg)
      else none)))
set_option maxHeartbeats 4000000 in
set_option maxRecDepth 100000 in
theorem mX5_get (l : Launch) (X : gX) (σ : gM) (t : Nat) (a1 : Int32) (r : Int32) (ok : gok5 X t) (h : fX5_get σ t a1 = some r) : Met l yX5_get (Cond.code yX5_get cX5_get 2 (some .int) :: gBig) ({ frames := 0, cells := 0, slots := 0, locals := 0 }) (gPc X σ [.ref (xN X + t), .int a1]) (gQi X σ r) 0 0 (xA X) := by
  refine g_meti (cc := cX5_get) (maxL := 2) (own := RX5) (by decide) rfl rfl (Nat.le_of_ble_eq_true rfl) ?_
  intro p ev s m args below meth c Q C G ret ls hl
  obtain ⟨⟨hx, hb, hml, hown, hts⟩, hK⟩ := id C
  have hl : lv_has ls 2 [(0, .ref (xN X + t)), (1, .int a1)] := hl
  unfold fX5_get at h
  refine lv_iload_n hx hb dX5_get_0 rfl (lv_at hl 1 rfl) ?_
  refine lv_if_lt (tgt := 22) hx hb dX5_get_1 (by decide) (fun c1 => ?_) (fun c1 => ?_)
  · have h := g_it h c1
    refine lv_iconst (v := (-1)) hx hb dX5_get_22 (by decide) ?_
    exact ret dX5_get_23 rfl G ⟨Option.some.inj h, rfl⟩
  · have h := g_if h c1
    refine lv_iload_n hx hb dX5_get_4 rfl (lv_at hl 1 rfl) ?_
    refine lv_aload_n hx hb dX5_get_5 rfl (lv_at hl 0 rfl) ?_
    refine gg5_0 C G ok.1 ok.2.1 u_fl_RX5_15 dX5_get_6 ?_
    refine g_alen C G ok.2.2 dX5_get_9 ?_
    refine lv_icmp_ge (tgt := 22) hx hb dX5_get_10 (by decide) (fun c2 => ?_) (fun c2 => ?_)
    · have h := g_it h c2
      refine lv_iconst (v := (-1)) hx hb dX5_get_22 (by decide) ?_
      exact ret dX5_get_23 rfl G ⟨Option.some.inj h, rfl⟩
    · have h := g_if h c2
      refine lv_aload_n hx hb dX5_get_13 rfl (lv_at hl 0 rfl) ?_
      refine gg5_0 C G ok.1 ok.2.1 u_fl_RX5_15 dX5_get_14 ?_
      refine lv_iload_n hx hb dX5_get_17 rfl (lv_at hl 1 rfl) ?_
      obtain ⟨c3, h⟩ := g_chk h
      refine g_iald C G ok.2.2 c3 dX5_get_18 ?_
      refine lv_goto (tgt := 23) hx hb dX5_get_19 (by decide) ?_
      exact ret dX5_get_23 rfl G ⟨Option.some.inj h, rfl⟩

def fX4_lies (σ : gM) (t : Nat) (a1 : Int32) : Option (Int32) :=
  ((fX5_get σ (t + 1) a1).bind fun v1 =>
  (if v1 = (-1) then
    some 0
  else
    some 1))
set_option maxHeartbeats 4000000 in
set_option maxRecDepth 100000 in
theorem mX4_lies (l : Launch) (X : gX) (σ : gM) (t : Nat) (a1 : Int32) (r : Int32) (ok : gok4 X t) (h : fX4_lies σ t a1 = some r) : Met l yX4_lies (Cond.code yX4_lies cX4_lies 2 (some .boolean) :: gBig) ({ frames := 1, cells := 0, slots := 0, locals := 21 }) (gPc X σ [.ref (xN X + t), .int a1]) (gQi X σ r) 0 0 (xA X) := by
  refine g_meti (cc := cX4_lies) (maxL := 2) (own := RX4) (by decide) rfl rfl (Nat.le_of_ble_eq_true rfl) ?_
  intro p ev s m args below meth c Q C G ret ls hl
  obtain ⟨⟨hx, hb, hml, hown, hts⟩, hK⟩ := id C
  have hl : lv_has ls 2 [(0, .ref (xN X + t)), (1, .int a1)] := hl
  unfold fX4_lies at h
  refine lv_aload_n hx hb dX4_lies_0 rfl (lv_at hl 0 rfl) ?_
  refine gg4_0 C G ok.1 ok.2.1.1 u_fl_RX4_14 dX4_lies_1 ?_
  refine lv_iload_n hx hb dX4_lies_4 rfl (lv_at hl 1 rfl) ?_
  obtain ⟨v1, e_v1, h⟩ := g_bind h
  refine g_calli (g_runV (n := 1) (As := [.int a1]) (rest := []) C G (mX5_get l X σ (t + 1) a1 v1 ok.2.2.1 e_v1) ok.2.2.1.1.2 (gE_5 ok.2.2.1.1.1) rfl (g_goodV u_ml_RX4_37 u_im_yX5_get u_se_yX5_get u_in_RX5 u_co_yX5_get) rfl rfl rfl (by decide +kernel) ⟨Nat.le_of_ble_eq_true rfl, Nat.le_of_ble_eq_true rfl⟩ rfl hl.1 rfl (Nat.le_of_ble_eq_true rfl) dX4_lies_5 ⟨Nat.zero_le _, Nat.zero_le _⟩) G (fun H locs G => ?_)
  refine lv_iconst (v := (-1)) hx hb dX4_lies_8 (by decide) ?_
  refine lv_icmp_eq (tgt := 16) hx hb dX4_lies_9 (by decide) (fun c2 => ?_) (fun c2 => ?_)
  · have h := g_it h c2
    refine lv_iconst (v := 0) hx hb dX4_lies_16 (by decide) ?_
    exact ret dX4_lies_17 rfl G ⟨Option.some.inj h, rfl⟩
  · have h := g_if h c2
    refine lv_iconst (v := 1) hx hb dX4_lies_12 (by decide) ?_
    refine lv_goto (tgt := 17) hx hb dX4_lies_13 (by decide) ?_
    exact ret dX4_lies_17 rfl G ⟨Option.some.inj h, rfl⟩

def fX0_countLying_4 (σ : gM) (t : Nat) : Nat → Int32 → Int32 → Option (Int32)
  | 0, _, _ => none
  | n + 1, x1, x2 =>
    ((fX6_size σ (t + 1)).bind fun v1 =>
    (if v1 ≤ x2 then
      some x1
    else
      ((fX4_lies σ (t + 8) x2).bind fun v3 =>
      (if v3 = 0 then
        (gl (x2 + 1) fun w5 =>
        fX0_countLying_4 σ t n x1 w5)
      else
        (gl (x1 + 1) fun w6 =>
        (gl (x2 + 1) fun w7 =>
        fX0_countLying_4 σ t n w6 w7))))))

def fX0_countLying (σ : gM) (t : Nat) : Option (Int32) :=
  fX0_countLying_4 σ t gF 0 0
set_option maxHeartbeats 4000000 in
set_option maxRecDepth 100000 in
theorem mX0_countLying (l : Launch) (X : gX) (σ : gM) (t : Nat) (r : Int32) (ok : gok0 X t) (h : fX0_countLying σ t = some r) : Met l yX0_countLying (Cond.code yX0_countLying cX0_countLying 3 (some .int) :: gBig) ({ frames := 2, cells := 0, slots := 0, locals := 42 }) (gPc X σ [.ref (xN X + t)]) (gQi X σ r) 0 0 (xA X) := by
  refine g_meti (cc := cX0_countLying) (maxL := 3) (own := RX0) (by decide) rfl rfl (Nat.le_of_ble_eq_true rfl) ?_
  intro p ev s m args below meth c Q C G ret ls hl
  obtain ⟨⟨hx, hb, hml, hown, hts⟩, hK⟩ := id C
  have hl : lv_has ls 3 [(0, .ref (xN X + t))] := hl
  have L4 : ∀ (n : Nat) (H : Heap) (locs : List Loc) (ls : Array Slot) (x1 : Int32) (x2 : Int32), gG X σ s H locs → lv_has ls 3 [(0, .ref (xN X + t)), (1, .int x1), (2, .int x2)] → fX0_countLying_4 σ t n x1 x2 = some r → W p l ev ({ frames := 2, cells := 0, slots := 0, locals := 42 }) s m args below meth c H locs 0 0 Q (F0 m 4 ls []) := by
    intro n
    induction n with
    | zero =>
      intro H locs ls x1 x2 G hl h
      rw [fX0_countLying_4] at h
      cases h
    | succ n ih =>
      intro H locs ls x1 x2 G hl h
      rw [fX0_countLying_4] at h
      refine lv_iload_n hx hb dX0_countLying_4 rfl (lv_at hl 2 rfl) ?_
      refine lv_aload_n hx hb dX0_countLying_5 rfl (lv_at hl 0 rfl) ?_
      refine gg0_0 C G ok.1 ok.2.1.1 u_fl_RX0_12 dX0_countLying_6 ?_
      obtain ⟨v1, e_v1, h⟩ := g_bind h
      refine g_calli (g_runV (n := 0) (As := []) (rest := [.int x2]) C G (mX6_size l X σ (t + 1) v1 ok.2.2.1 e_v1) ok.2.2.1.1.2 (gE_6 ok.2.2.1.1.1) rfl (g_goodV u_ml_RX0_37 u_im_yX6_size u_se_yX6_size u_in_RX6 u_co_yX6_size) rfl rfl rfl (by decide +kernel) ⟨Nat.le_of_ble_eq_true rfl, Nat.le_of_ble_eq_true rfl⟩ rfl hl.1 rfl (Nat.le_of_ble_eq_true rfl) dX0_countLying_9 ⟨Nat.zero_le _, Nat.zero_le _⟩) G (fun H locs G => ?_)
      refine lv_icmp_ge (tgt := 35) hx hb dX0_countLying_12 (by decide) (fun c2 => ?_) (fun c2 => ?_)
      · have h := g_it h c2
        refine lv_iload_n hx hb dX0_countLying_35 rfl (lv_at hl 1 rfl) ?_
        exact ret dX0_countLying_36 rfl G ⟨Option.some.inj h, rfl⟩
      · have h := g_if h c2
        refine lv_aload_n hx hb dX0_countLying_15 rfl (lv_at hl 0 rfl) ?_
        refine gg0_1 C G ok.1 ok.2.1.2 u_fl_RX0_21 dX0_countLying_16 ?_
        refine lv_iload_n hx hb dX0_countLying_19 rfl (lv_at hl 2 rfl) ?_
        obtain ⟨v3, e_v3, h⟩ := g_bind h
        refine g_calli (g_runV (n := 1) (As := [.int x2]) (rest := []) C G (mX4_lies l X σ (t + 8) x2 v3 ok.2.2.2 e_v3) ok.2.2.2.1.2 (gE_4 ok.2.2.2.1.1) rfl (g_goodV u_ml_RX0_41 u_im_yX4_lies u_se_yX4_lies u_in_RX4 u_co_yX4_lies) rfl rfl rfl (by decide +kernel) ⟨Nat.le_of_ble_eq_true rfl, Nat.le_of_ble_eq_true rfl⟩ rfl hl.1 rfl (Nat.le_of_ble_eq_true rfl) dX0_countLying_20 ⟨Nat.zero_le _, Nat.zero_le _⟩) G (fun H locs G => ?_)
        refine lv_if_eq (tgt := 29) hx hb dX0_countLying_23 (by decide) (fun c4 => ?_) (fun c4 => ?_)
        · have h := g_it h c4
          obtain ⟨w5, e_w5⟩ : ∃ y : Int32, y = x2 + 1 := ⟨_, rfl⟩
          have h := g_let2 e_w5 h
          refine lv_iinc (v := w5) (lv' := [(2, .int w5), (0, .ref (xN X + t)), (1, .int x1)]) hx hb dX0_countLying_29 hl (k := 2) rfl (by rw [e_w5]; rfl) (by decide) rfl (fun ls hl => ?_)
          refine lv_goto (tgt := 4) hx hb dX0_countLying_32 (by decide) ?_
          exact ih _ _ _ x1 w5 G (lv_sub hl [1, 2, 0] rfl) h
        · have h := g_if h c4
          obtain ⟨w6, e_w6⟩ : ∃ y : Int32, y = x1 + 1 := ⟨_, rfl⟩
          have h := g_let2 e_w6 h
          refine lv_iinc (v := w6) (lv' := [(1, .int w6), (0, .ref (xN X + t)), (2, .int x2)]) hx hb dX0_countLying_26 hl (k := 1) rfl (by rw [e_w6]; rfl) (by decide) rfl (fun ls hl => ?_)
          obtain ⟨w7, e_w7⟩ : ∃ y : Int32, y = x2 + 1 := ⟨_, rfl⟩
          have h := g_let2 e_w7 h
          refine lv_iinc (v := w7) (lv' := [(2, .int w7), (1, .int w6), (0, .ref (xN X + t))]) hx hb dX0_countLying_29 hl (k := 2) rfl (by rw [e_w7]; rfl) (by decide) rfl (fun ls hl => ?_)
          refine lv_goto (tgt := 4) hx hb dX0_countLying_32 (by decide) ?_
          exact ih _ _ _ w6 w7 G (lv_sub hl [2, 1, 0] rfl) h
  unfold fX0_countLying at h
  refine lv_iconst (v := 0) hx hb dX0_countLying_0 (by decide) ?_
  refine lv_istore_n (lv' := [(1, .int 0), (0, .ref (xN X + t))]) hx hb dX0_countLying_1 rfl hl (by decide) rfl (fun ls hl => ?_)
  refine lv_iconst (v := 0) hx hb dX0_countLying_2 (by decide) ?_
  refine lv_istore_n (lv' := [(2, .int 0), (1, .int 0), (0, .ref (xN X + t))]) hx hb dX0_countLying_3 rfl hl (by decide) rfl (fun ls hl => ?_)
  exact L4  gF _ _ _ 0 0 G (lv_sub hl [2, 1, 0] rfl) h

def fX3_state (σ : gM) (t : Nat) (a1 : Int32) : Option ((Option Nat)) :=
  (gl (((σ t 1) + a1) - ((σ t 1) + a1) / 5 * 5) fun w1 =>
  (if a1 < 0 then
    some none
  else
    (if w1 < 0 then
      some none
    else
      (if (nI (gln (t + 1))) ≤ w1 then
        some none
      else
        (if ¬ (w1 < 0 ∨ gln (t + 1) ≤ w1.toNatClampNeg) then
        some (some ((t + 1) + (1 + 15 * w1.toNatClampNeg)))
        else none)))))
set_option maxHeartbeats 4000000 in
set_option maxRecDepth 100000 in
theorem mX3_state (l : Launch) (X : gX) (σ : gM) (t : Nat) (a1 : Int32) (r : Option Nat) (ok : gok3 X t) (h : fX3_state σ t a1 = some r) : Met l yX3_state (Cond.code yX3_state cX3_state 3 (some (.object "TornPages$Desk")) :: gBig) ({ frames := 0, cells := 0, slots := 0, locals := 0 }) (gPc X σ [.ref (xN X + t), .int a1]) (gQr X σ r) 0 0 (xA X) := by
  refine g_metr (cc := cX3_state) (maxL := 3) (own := RX3) (by decide) rfl rfl (Nat.le_of_ble_eq_true rfl) ?_
  intro p ev s m args below meth c Q C G ret ls hl
  obtain ⟨⟨hx, hb, hml, hown, hts⟩, hK⟩ := id C
  have hl : lv_has ls 3 [(0, .ref (xN X + t)), (1, .int a1)] := hl
  unfold fX3_state at h
  refine lv_aload_n hx hb dX3_state_0 rfl (lv_at hl 0 rfl) ?_
  refine gg3_1 C G ok.1 u_fl_RX3_22 dX3_state_1 ?_
  refine lv_iload_n hx hb dX3_state_4 rfl (lv_at hl 1 rfl) ?_
  refine lv_iadd hx hb dX3_state_5 ?_
  refine lv_iconst (v := 5) hx hb dX3_state_6 (by decide) ?_
  refine lv_irem hx hb dX3_state_7 (by decide) ?_
  refine lv_topi (fun w1 e_w1 => ?_)
  have h := g_let2 e_w1 h
  refine lv_istore_n (lv' := [(2, .int w1), (0, .ref (xN X + t)), (1, .int a1)]) hx hb dX3_state_8 rfl hl (by decide) rfl (fun ls hl => ?_)
  refine lv_iload_n hx hb dX3_state_9 rfl (lv_at hl 2 rfl) ?_
  refine lv_if_lt (tgt := 35) hx hb dX3_state_10 (by decide) (fun c2 => ?_) (fun c2 => ?_)
  · have h := g_it h c2
    refine lv_null hx hb dX3_state_35 ?_
    exact ret (v := none) dX3_state_36 G ⟨Option.some.inj h, rfl⟩
  · have h := g_if h c2
    refine lv_iload_n hx hb dX3_state_13 rfl (lv_at hl 0 rfl) ?_
    refine lv_if_lt (tgt := 35) hx hb dX3_state_14 (by decide) (fun c3 => ?_) (fun c3 => ?_)
    · have h := g_it h c3
      refine lv_null hx hb dX3_state_35 ?_
      exact ret (v := none) dX3_state_36 G ⟨Option.some.inj h, rfl⟩
    · have h := g_if h c3
      refine lv_iload_n hx hb dX3_state_17 rfl (lv_at hl 0 rfl) ?_
      refine lv_aload_n hx hb dX3_state_18 rfl (lv_at hl 1 rfl) ?_
      refine gg3_0 C G ok.1 ok.2.1 u_fl_RX3_11 dX3_state_19 ?_
      refine g_qlen C G ok.2.2.1 dX3_state_22 ?_
      refine lv_icmp_ge (tgt := 35) hx hb dX3_state_23 (by decide) (fun c4 => ?_) (fun c4 => ?_)
      · have h := g_it h c4
        refine lv_null hx hb dX3_state_35 ?_
        exact ret (v := none) dX3_state_36 G ⟨Option.some.inj h, rfl⟩
      · have h := g_if h c4
        refine lv_aload_n hx hb dX3_state_26 rfl (lv_at hl 1 rfl) ?_
        refine gg3_0 C G ok.1 ok.2.1 u_fl_RX3_11 dX3_state_27 ?_
        refine lv_iload_n hx hb dX3_state_30 rfl (lv_at hl 0 rfl) ?_
        obtain ⟨c5, h⟩ := g_chk h
        refine g_aald C G ok.2.2.1 c5 ok.2.2.2.1 dX3_state_31 ?_
        refine lv_goto (tgt := 36) hx hb dX3_state_32 (by decide) ?_
        exact ret (v := (some ((t + 1) + (1 + 15 * w1.toNatClampNeg)))) dX3_state_36 G ⟨Option.some.inj h, rfl⟩
theorem okX3_state {X : gX} {σ : gM} {t k : Nat} {a1 : Int32} (ok : gok3 X t) (h : fX3_state σ t a1 = some (some k)) : gok0 X k := by
  unfold fX3_state at h
  obtain ⟨w, -, h⟩ := g_let h
  by_cases c1 : a1 < 0
  · have h := g_it h c1
    cases h
  · have h := g_if h c1
    by_cases c2 : w < 0
    · have h := g_it h c2
      cases h
    · have h := g_if h c2
      by_cases c3 : nI (gln (t + 1)) ≤ w
      · have h := g_it h c3
        cases h
      · have h := g_if h c3
        obtain ⟨c4, h⟩ := g_chk h
        have e := Option.some.inj (Option.some.inj h)
        rw [← e]
        exact ok.2.2.2.2 _ (g_lt c4)

def fX5_copy (σ : gM) (t : Nat) (o1 : Nat) : Option (gM) :=
  (gl (if (nI (gln (o1 + 1))) < (nI (gln (t + 1))) then (nI (gln (o1 + 1))) else (nI (gln (t + 1)))) fun w1 =>
  (if ¬ (0 : Int32) < 0 ∧ ¬ (0 : Int32) < 0 ∧ ¬ w1 < 0 ∧ (0 : Int32).toNatClampNeg + w1.toNatClampNeg ≤ gln (o1 + 1) ∧ (0 : Int32).toNatClampNeg + w1.toNatClampNeg ≤ gln (t + 1) then
  (gl (gset σ (t + 1) (va_cpy (σ (o1 + 1)) (σ (t + 1)) (0 : Int32).toNatClampNeg (0 : Int32).toNatClampNeg w1.toNatClampNeg)) fun σ3 =>
  some σ3)
  else none))
set_option maxHeartbeats 4000000 in
set_option maxRecDepth 100000 in
theorem mX5_copy (l : Launch) (X : gX) (σ σ' : gM) (t : Nat) (o1 : Nat) (ok : gok5 X t) (ok1 : gok5 X o1) (h : fX5_copy σ t o1 = some σ') : Met l yX5_copy (Cond.code yX5_copy cX5_copy 3 none :: gBig) ({ frames := 1, cells := 0, slots := 0, locals := 64 }) (gPc X σ [.ref (xN X + t), .ref (xN X + o1)]) (gQv X σ') 0 0 (xA X) := by
  refine g_metv (cc := cX5_copy) (maxL := 3) (own := RX5) (by decide) rfl rfl (Nat.le_of_ble_eq_true rfl) ?_
  intro p ev s m args below meth c Q C G ret ls hl
  obtain ⟨⟨hx, hb, hml, hown, hts⟩, hK⟩ := id C
  have hl : lv_has ls 3 [(0, .ref (xN X + t)), (1, .ref (xN X + o1))] := hl
  unfold fX5_copy at h
  refine lv_aload_n hx hb dX5_copy_0 rfl (lv_at hl 0 rfl) ?_
  refine gg5_0 C G ok.1 ok.2.1 u_fl_RX5_15 dX5_copy_1 ?_
  refine g_alen C G ok.2.2 dX5_copy_4 ?_
  refine lv_aload_n hx hb dX5_copy_5 rfl (lv_at hl 1 rfl) ?_
  refine gg5_0 C G ok1.1 ok1.2.1 u_fl_RX5_15 dX5_copy_6 ?_
  refine g_alen C G ok1.2.2 dX5_copy_9 ?_
  refine g_min C hl.1 u_ml_RX5_27 u_st_Lib_Math_min_name u_in_java_lang_Math u_co_Lib_Math_min_name (Nat.le_of_ble_eq_true rfl) (Nat.le_of_ble_eq_true rfl) (Nat.zero_le _) (Nat.zero_le _) dX5_copy_10 ?_
  refine lv_topi (fun w1 e_w1 => ?_)
  have h := g_let2 e_w1 h
  refine lv_istore_n (lv' := [(2, .int w1), (0, .ref (xN X + t)), (1, .ref (xN X + o1))]) hx hb dX5_copy_13 rfl hl (by decide) rfl (fun ls hl => ?_)
  refine lv_aload_n hx hb dX5_copy_14 rfl (lv_at hl 2 rfl) ?_
  refine gg5_0 C G ok1.1 ok1.2.1 u_fl_RX5_15 dX5_copy_15 ?_
  refine lv_iconst (v := 0) hx hb dX5_copy_18 (by decide) ?_
  refine lv_aload_n hx hb dX5_copy_19 rfl (lv_at hl 1 rfl) ?_
  refine gg5_0 C G ok.1 ok.2.1 u_fl_RX5_15 dX5_copy_20 ?_
  refine lv_iconst (v := 0) hx hb dX5_copy_23 (by decide) ?_
  refine lv_iload_n hx hb dX5_copy_24 rfl (lv_at hl 0 rfl) ?_
  obtain ⟨c2, h⟩ := g_chk h
  obtain ⟨σ3, e_σ3, h⟩ := g_let h
  refine g_copy C G ok1.2.2 ok.2.2 hl.1 u_ml_RX5_30 u_na_arraycopyName u_st_arraycopyName u_in_java_lang_System c2 (Nat.le_of_ble_eq_true rfl) (Nat.le_of_ble_eq_true rfl) dX5_copy_25 (fun H locs G => ?_)
  rw [e_σ3] at G
  exact ret dX5_copy_28 G (Option.some.inj h)

def fX6_copy (σ : gM) (t : Nat) (o1 : Nat) : Option (gM) :=
  ((fX5_copy σ (t + 1) (o1 + 1)).bind fun σ2 =>
  ((fX5_copy σ2 (t + 3) (o1 + 3)).bind fun σ4 =>
  ((fX5_copy σ4 (t + 5) (o1 + 5)).bind fun σ6 =>
  (gl (gset σ6 t (upd (σ6 t) 3 (σ6 o1 3))) fun σ7 =>
  some σ7))))
set_option maxHeartbeats 4000000 in
set_option maxRecDepth 100000 in
theorem mX6_copy (l : Launch) (X : gX) (σ σ' : gM) (t : Nat) (o1 : Nat) (ok : gok6 X t) (ok1 : gok6 X o1) (h : fX6_copy σ t o1 = some σ') : Met l yX6_copy (Cond.code yX6_copy cX6_copy 2 none :: gBig) ({ frames := 2, cells := 0, slots := 0, locals := 86 }) (gPc X σ [.ref (xN X + t), .ref (xN X + o1)]) (gQv X σ') 0 0 (xA X) := by
  refine g_metv (cc := cX6_copy) (maxL := 2) (own := RX6) (by decide) rfl rfl (Nat.le_of_ble_eq_true rfl) ?_
  intro p ev s m args below meth c Q C G ret ls hl
  obtain ⟨⟨hx, hb, hml, hown, hts⟩, hK⟩ := id C
  have hl : lv_has ls 2 [(0, .ref (xN X + t)), (1, .ref (xN X + o1))] := hl
  unfold fX6_copy at h
  refine lv_aload_n hx hb dX6_copy_0 rfl (lv_at hl 0 rfl) ?_
  refine gg6_0 C G ok.1 ok.2.1.1 u_fl_RX6_14 dX6_copy_1 ?_
  refine lv_aload_n hx hb dX6_copy_4 rfl (lv_at hl 1 rfl) ?_
  refine gg6_0 C G ok1.1 ok1.2.1.1 u_fl_RX6_14 dX6_copy_5 ?_
  obtain ⟨σ2, e_σ2, h⟩ := g_bind h
  refine g_callv (g_runV (n := 1) (As := [.ref (xN X + (o1 + 1))]) (rest := []) C G (mX5_copy l X σ σ2 (t + 1) (o1 + 1) ok.2.2.1 ok1.2.2.1 e_σ2) ok.2.2.1.1.2 (gE_5 ok.2.2.1.1.1) rfl (g_goodV u_ml_RX6_54 u_im_yX5_copy u_se_yX5_copy u_in_RX5 u_co_yX5_copy) rfl rfl rfl (by decide +kernel) ⟨Nat.le_of_ble_eq_true rfl, Nat.le_of_ble_eq_true rfl⟩ rfl hl.1 rfl (Nat.le_of_ble_eq_true rfl) dX6_copy_8 ⟨Nat.zero_le _, Nat.zero_le _⟩) G (fun H locs G => ?_)
  refine lv_aload_n hx hb dX6_copy_11 rfl (lv_at hl 0 rfl) ?_
  refine gg6_1 C G ok.1 ok.2.1.2.1 u_fl_RX6_20 dX6_copy_12 ?_
  refine lv_aload_n hx hb dX6_copy_15 rfl (lv_at hl 1 rfl) ?_
  refine gg6_1 C G ok1.1 ok1.2.1.2.1 u_fl_RX6_20 dX6_copy_16 ?_
  obtain ⟨σ4, e_σ4, h⟩ := g_bind h
  refine g_callv (g_runV (n := 1) (As := [.ref (xN X + (o1 + 3))]) (rest := []) C G (mX5_copy l X σ2 σ4 (t + 3) (o1 + 3) ok.2.2.2.1 ok1.2.2.2.1 e_σ4) ok.2.2.2.1.1.2 (gE_5 ok.2.2.2.1.1.1) rfl (g_goodV u_ml_RX6_54 u_im_yX5_copy u_se_yX5_copy u_in_RX5 u_co_yX5_copy) rfl rfl rfl (by decide +kernel) ⟨Nat.le_of_ble_eq_true rfl, Nat.le_of_ble_eq_true rfl⟩ rfl hl.1 rfl (Nat.le_of_ble_eq_true rfl) dX6_copy_19 ⟨Nat.zero_le _, Nat.zero_le _⟩) G (fun H locs G => ?_)
  refine lv_aload_n hx hb dX6_copy_22 rfl (lv_at hl 0 rfl) ?_
  refine gg6_2 C G ok.1 ok.2.1.2.2 u_fl_RX6_23 dX6_copy_23 ?_
  refine lv_aload_n hx hb dX6_copy_26 rfl (lv_at hl 1 rfl) ?_
  refine gg6_2 C G ok1.1 ok1.2.1.2.2 u_fl_RX6_23 dX6_copy_27 ?_
  obtain ⟨σ6, e_σ6, h⟩ := g_bind h
  refine g_callv (g_runV (n := 1) (As := [.ref (xN X + (o1 + 5))]) (rest := []) C G (mX5_copy l X σ4 σ6 (t + 5) (o1 + 5) ok.2.2.2.2 ok1.2.2.2.2 e_σ6) ok.2.2.2.2.1.2 (gE_5 ok.2.2.2.2.1.1) rfl (g_goodV u_ml_RX6_54 u_im_yX5_copy u_se_yX5_copy u_in_RX5 u_co_yX5_copy) rfl rfl rfl (by decide +kernel) ⟨Nat.le_of_ble_eq_true rfl, Nat.le_of_ble_eq_true rfl⟩ rfl hl.1 rfl (Nat.le_of_ble_eq_true rfl) dX6_copy_30 ⟨Nat.zero_le _, Nat.zero_le _⟩) G (fun H locs G => ?_)
  refine lv_aload_n hx hb dX6_copy_33 rfl (lv_at hl 0 rfl) ?_
  refine lv_aload_n hx hb dX6_copy_34 rfl (lv_at hl 1 rfl) ?_
  refine gg6_3 C G ok1.1 u_fl_RX6_26 dX6_copy_35 ?_
  obtain ⟨σ7, e_σ7, h⟩ := g_let h
  refine gp6_3 C G ok.1 u_fl_RX6_26 dX6_copy_38 (fun H locs G => ?_)
  rw [e_σ7] at G
  exact ret dX6_copy_41 G (Option.some.inj h)

def fX4_copy (σ : gM) (t : Nat) (o1 : Nat) : Option (gM) :=
  (gl (gset σ t (upd (σ t) 3 (σ o1 3))) fun σ1 =>
  (gl (gset σ1 t (upd (σ1 t) 4 (σ1 o1 4))) fun σ2 =>
  ((fX5_copy σ2 (t + 1) (o1 + 1)).bind fun σ4 =>
  ((fX5_copy σ4 (t + 3) (o1 + 3)).bind fun σ6 =>
  ((fX5_copy σ6 (t + 5) (o1 + 5)).bind fun σ8 =>
  some σ8)))))
set_option maxHeartbeats 4000000 in
set_option maxRecDepth 100000 in
theorem mX4_copy (l : Launch) (X : gX) (σ σ' : gM) (t : Nat) (o1 : Nat) (ok : gok4 X t) (ok1 : gok4 X o1) (h : fX4_copy σ t o1 = some σ') : Met l yX4_copy (Cond.code yX4_copy cX4_copy 2 none :: gBig) ({ frames := 2, cells := 0, slots := 0, locals := 86 }) (gPc X σ [.ref (xN X + t), .ref (xN X + o1)]) (gQv X σ') 0 0 (xA X) := by
  refine g_metv (cc := cX4_copy) (maxL := 2) (own := RX4) (by decide) rfl rfl (Nat.le_of_ble_eq_true rfl) ?_
  intro p ev s m args below meth c Q C G ret ls hl
  obtain ⟨⟨hx, hb, hml, hown, hts⟩, hK⟩ := id C
  have hl : lv_has ls 2 [(0, .ref (xN X + t)), (1, .ref (xN X + o1))] := hl
  unfold fX4_copy at h
  refine lv_aload_n hx hb dX4_copy_0 rfl (lv_at hl 0 rfl) ?_
  refine lv_aload_n hx hb dX4_copy_1 rfl (lv_at hl 1 rfl) ?_
  refine gg4_3 C G ok1.1 u_fl_RX4_30 dX4_copy_2 ?_
  obtain ⟨σ1, e_σ1, h⟩ := g_let h
  refine gp4_3 C G ok.1 u_fl_RX4_30 dX4_copy_5 (fun H locs G => ?_)
  rw [e_σ1] at G
  refine lv_aload_n hx hb dX4_copy_8 rfl (lv_at hl 0 rfl) ?_
  refine lv_aload_n hx hb dX4_copy_9 rfl (lv_at hl 1 rfl) ?_
  refine gg4_4 C G ok1.1 u_fl_RX4_34 dX4_copy_10 ?_
  obtain ⟨σ2, e_σ2, h⟩ := g_let h
  refine gp4_4 C G ok.1 u_fl_RX4_34 dX4_copy_13 (fun H locs G => ?_)
  rw [e_σ2] at G
  refine lv_aload_n hx hb dX4_copy_16 rfl (lv_at hl 0 rfl) ?_
  refine gg4_0 C G ok.1 ok.2.1.1 u_fl_RX4_14 dX4_copy_17 ?_
  refine lv_aload_n hx hb dX4_copy_20 rfl (lv_at hl 1 rfl) ?_
  refine gg4_0 C G ok1.1 ok1.2.1.1 u_fl_RX4_14 dX4_copy_21 ?_
  obtain ⟨σ4, e_σ4, h⟩ := g_bind h
  refine g_callv (g_runV (n := 1) (As := [.ref (xN X + (o1 + 1))]) (rest := []) C G (mX5_copy l X σ2 σ4 (t + 1) (o1 + 1) ok.2.2.1 ok1.2.2.1 e_σ4) ok.2.2.1.1.2 (gE_5 ok.2.2.1.1.1) rfl (g_goodV u_ml_RX4_50 u_im_yX5_copy u_se_yX5_copy u_in_RX5 u_co_yX5_copy) rfl rfl rfl (by decide +kernel) ⟨Nat.le_of_ble_eq_true rfl, Nat.le_of_ble_eq_true rfl⟩ rfl hl.1 rfl (Nat.le_of_ble_eq_true rfl) dX4_copy_24 ⟨Nat.zero_le _, Nat.zero_le _⟩) G (fun H locs G => ?_)
  refine lv_aload_n hx hb dX4_copy_27 rfl (lv_at hl 0 rfl) ?_
  refine gg4_1 C G ok.1 ok.2.1.2.1 u_fl_RX4_20 dX4_copy_28 ?_
  refine lv_aload_n hx hb dX4_copy_31 rfl (lv_at hl 1 rfl) ?_
  refine gg4_1 C G ok1.1 ok1.2.1.2.1 u_fl_RX4_20 dX4_copy_32 ?_
  obtain ⟨σ6, e_σ6, h⟩ := g_bind h
  refine g_callv (g_runV (n := 1) (As := [.ref (xN X + (o1 + 3))]) (rest := []) C G (mX5_copy l X σ4 σ6 (t + 3) (o1 + 3) ok.2.2.2.1 ok1.2.2.2.1 e_σ6) ok.2.2.2.1.1.2 (gE_5 ok.2.2.2.1.1.1) rfl (g_goodV u_ml_RX4_50 u_im_yX5_copy u_se_yX5_copy u_in_RX5 u_co_yX5_copy) rfl rfl rfl (by decide +kernel) ⟨Nat.le_of_ble_eq_true rfl, Nat.le_of_ble_eq_true rfl⟩ rfl hl.1 rfl (Nat.le_of_ble_eq_true rfl) dX4_copy_35 ⟨Nat.zero_le _, Nat.zero_le _⟩) G (fun H locs G => ?_)
  refine lv_aload_n hx hb dX4_copy_38 rfl (lv_at hl 0 rfl) ?_
  refine gg4_2 C G ok.1 ok.2.1.2.2 u_fl_RX4_23 dX4_copy_39 ?_
  refine lv_aload_n hx hb dX4_copy_42 rfl (lv_at hl 1 rfl) ?_
  refine gg4_2 C G ok1.1 ok1.2.1.2.2 u_fl_RX4_23 dX4_copy_43 ?_
  obtain ⟨σ8, e_σ8, h⟩ := g_bind h
  refine g_callv (g_runV (n := 1) (As := [.ref (xN X + (o1 + 5))]) (rest := []) C G (mX5_copy l X σ6 σ8 (t + 5) (o1 + 5) ok.2.2.2.2 ok1.2.2.2.2 e_σ8) ok.2.2.2.2.1.2 (gE_5 ok.2.2.2.2.1.1) rfl (g_goodV u_ml_RX4_50 u_im_yX5_copy u_se_yX5_copy u_in_RX5 u_co_yX5_copy) rfl rfl rfl (by decide +kernel) ⟨Nat.le_of_ble_eq_true rfl, Nat.le_of_ble_eq_true rfl⟩ rfl hl.1 rfl (Nat.le_of_ble_eq_true rfl) dX4_copy_46 ⟨Nat.zero_le _, Nat.zero_le _⟩) G (fun H locs G => ?_)
  exact ret dX4_copy_49 G (Option.some.inj h)

def fX0_copy (σ : gM) (t : Nat) (o1 : Nat) : Option (gM) :=
  ((fX6_copy σ (t + 1) (o1 + 1)).bind fun σ2 =>
  ((fX4_copy σ2 (t + 8) (o1 + 8)).bind fun σ4 =>
  some σ4))
set_option maxHeartbeats 4000000 in
set_option maxRecDepth 100000 in
theorem mX0_copy (l : Launch) (X : gX) (σ σ' : gM) (t : Nat) (o1 : Nat) (ok : gok0 X t) (ok1 : gok0 X o1) (h : fX0_copy σ t o1 = some σ') : Met l yX0_copy (Cond.code yX0_copy cX0_copy 2 none :: gBig) ({ frames := 3, cells := 0, slots := 0, locals := 107 }) (gPc X σ [.ref (xN X + t), .ref (xN X + o1)]) (gQv X σ') 0 0 (xA X) := by
  refine g_metv (cc := cX0_copy) (maxL := 2) (own := RX0) (by decide) rfl rfl (Nat.le_of_ble_eq_true rfl) ?_
  intro p ev s m args below meth c Q C G ret ls hl
  obtain ⟨⟨hx, hb, hml, hown, hts⟩, hK⟩ := id C
  have hl : lv_has ls 2 [(0, .ref (xN X + t)), (1, .ref (xN X + o1))] := hl
  unfold fX0_copy at h
  refine lv_aload_n hx hb dX0_copy_0 rfl (lv_at hl 0 rfl) ?_
  refine gg0_0 C G ok.1 ok.2.1.1 u_fl_RX0_12 dX0_copy_1 ?_
  refine lv_aload_n hx hb dX0_copy_4 rfl (lv_at hl 1 rfl) ?_
  refine gg0_0 C G ok1.1 ok1.2.1.1 u_fl_RX0_12 dX0_copy_5 ?_
  obtain ⟨σ2, e_σ2, h⟩ := g_bind h
  refine g_callv (g_runV (n := 1) (As := [.ref (xN X + (o1 + 1))]) (rest := []) C G (mX6_copy l X σ σ2 (t + 1) (o1 + 1) ok.2.2.1 ok1.2.2.1 e_σ2) ok.2.2.1.1.2 (gE_6 ok.2.2.1.1.1) rfl (g_goodV u_ml_RX0_25 u_im_yX6_copy u_se_yX6_copy u_in_RX6 u_co_yX6_copy) rfl rfl rfl (by decide +kernel) ⟨Nat.le_of_ble_eq_true rfl, Nat.le_of_ble_eq_true rfl⟩ rfl hl.1 rfl (Nat.le_of_ble_eq_true rfl) dX0_copy_8 ⟨Nat.zero_le _, Nat.zero_le _⟩) G (fun H locs G => ?_)
  refine lv_aload_n hx hb dX0_copy_11 rfl (lv_at hl 0 rfl) ?_
  refine gg0_1 C G ok.1 ok.2.1.2 u_fl_RX0_21 dX0_copy_12 ?_
  refine lv_aload_n hx hb dX0_copy_15 rfl (lv_at hl 1 rfl) ?_
  refine gg0_1 C G ok1.1 ok1.2.1.2 u_fl_RX0_21 dX0_copy_16 ?_
  obtain ⟨σ4, e_σ4, h⟩ := g_bind h
  refine g_callv (g_runV (n := 1) (As := [.ref (xN X + (o1 + 8))]) (rest := []) C G (mX4_copy l X σ2 σ4 (t + 8) (o1 + 8) ok.2.2.2 ok1.2.2.2 e_σ4) ok.2.2.2.1.2 (gE_4 ok.2.2.2.1.1) rfl (g_goodV u_ml_RX0_29 u_im_yX4_copy u_se_yX4_copy u_in_RX4 u_co_yX4_copy) rfl rfl rfl (by decide +kernel) ⟨Nat.le_of_ble_eq_true rfl, Nat.le_of_ble_eq_true rfl⟩ rfl hl.1 rfl (Nat.le_of_ble_eq_true rfl) dX0_copy_19 ⟨Nat.zero_le _, Nat.zero_le _⟩) G (fun H locs G => ?_)
  exact ret dX0_copy_22 G (Option.some.inj h)

def fX3_keep (σ : gM) (t : Nat) (o1 : Nat) : Option (gM) :=
  (if (σ t 2) < 5 then
    ((fX3_state σ t (σ t 2)).bind fun v2 =>
    (go v2 (
      some σ)
      fun k3 =>
      ((fX0_copy σ k3 o1).bind fun σ5 =>
      (gl (gset σ5 t (upd (σ5 t) 2 ((σ5 t 2) + 1))) fun σ6 =>
      some σ6))))
  else
    (gl (gset σ t (upd (σ t) 1 (((σ t 1) + 1) - ((σ t 1) + 1) / 5 * 5))) fun σ7 =>
    (gl (gset σ7 t (upd (σ7 t) 2 ((σ7 t 2) - 1))) fun σ8 =>
    ((fX3_state σ8 t (σ8 t 2)).bind fun v9 =>
    (go v9 (
      some σ8)
      fun k10 =>
      ((fX0_copy σ8 k10 o1).bind fun σ12 =>
      (gl (gset σ12 t (upd (σ12 t) 2 ((σ12 t 2) + 1))) fun σ13 =>
      some σ13)))))))
set_option maxHeartbeats 4000000 in
set_option maxRecDepth 100000 in
theorem mX3_keep (l : Launch) (X : gX) (σ σ' : gM) (t : Nat) (o1 : Nat) (ok : gok3 X t) (ok1 : gok0 X o1) (h : fX3_keep σ t o1 = some σ') : Met l yX3_keep (Cond.code yX3_keep cX3_keep 3 none :: gBig) ({ frames := 4, cells := 0, slots := 0, locals := 128 }) (gPc X σ [.ref (xN X + t), .ref (xN X + o1)]) (gQv X σ') 0 0 (xA X) := by
  refine g_metv (cc := cX3_keep) (maxL := 3) (own := RX3) (by decide) rfl rfl (Nat.le_of_ble_eq_true rfl) ?_
  intro p ev s m args below meth c Q C G ret ls hl
  obtain ⟨⟨hx, hb, hml, hown, hts⟩, hK⟩ := id C
  have hl : lv_has ls 3 [(0, .ref (xN X + t)), (1, .ref (xN X + o1))] := hl
  unfold fX3_keep at h
  refine lv_aload_n hx hb dX3_keep_0 rfl (lv_at hl 0 rfl) ?_
  refine gg3_2 C G ok.1 u_fl_RX3_18 dX3_keep_1 ?_
  refine lv_iconst (v := 5) hx hb dX3_keep_4 (by decide) ?_
  refine lv_icmp_lt (tgt := 30) hx hb dX3_keep_5 (by decide) (fun c1 => ?_) (fun c1 => ?_)
  · have h := g_it h c1
    refine lv_aload_n hx hb dX3_keep_30 rfl (lv_at hl 0 rfl) ?_
    refine lv_aload_n hx hb dX3_keep_31 rfl (lv_at hl 0 rfl) ?_
    refine gg3_2 C G ok.1 u_fl_RX3_18 dX3_keep_32 ?_
    obtain ⟨v2, e_v2, h⟩ := g_bind h
    refine g_callr (g_runV (n := 1) (As := [.int (σ t 2)]) (rest := []) C G (mX3_state l X σ t (σ t 2) v2 ok e_v2) ok.1.2 (gE_3 ok.1.1) rfl (g_goodV u_ml_RX3_25 u_im_yX3_state u_se_yX3_state u_in_RX3 u_co_yX3_state) rfl rfl rfl (by decide +kernel) ⟨Nat.le_of_ble_eq_true rfl, Nat.le_of_ble_eq_true rfl⟩ rfl hl.1 rfl (Nat.le_of_ble_eq_true rfl) dX3_keep_35 ⟨Nat.zero_le _, Nat.zero_le _⟩) G (fun H locs G => ?_)
    cases v2 with
    | none =>
      have h := g_gon h
      refine lv_astore_nN (lv' := [(2, .null), (0, .ref (xN X + t)), (1, .ref (xN X + o1))]) hx hb dX3_keep_38 rfl hl (by decide) rfl (fun ls hl => ?_)
      refine lv_aload_nN hx hb dX3_keep_39 rfl (lv_at hl 0 rfl) ?_
      refine lv_ifnullN (tgt := 58) hx hb dX3_keep_40 (by decide) ?_
      exact ret dX3_keep_58 G (Option.some.inj h)
    | some k3 =>
      have h := g_gos h
      have okk3 := okX3_state ok e_v2
      refine lv_astore_n (lv' := [(2, .ref (xN X + k3)), (0, .ref (xN X + t)), (1, .ref (xN X + o1))]) hx hb dX3_keep_38 rfl hl (by decide) rfl (fun ls hl => ?_)
      refine lv_aload_n hx hb dX3_keep_39 rfl (lv_at hl 0 rfl) ?_
      refine lv_ifnull hx hb dX3_keep_40 ?_
      refine lv_aload_n hx hb dX3_keep_43 rfl (lv_at hl 0 rfl) ?_
      refine lv_aload_n hx hb dX3_keep_44 rfl (lv_at hl 2 rfl) ?_
      obtain ⟨σ5, e_σ5, h⟩ := g_bind h
      refine g_callv (g_runV (n := 1) (As := [.ref (xN X + o1)]) (rest := []) C G (mX0_copy l X σ σ5 k3 o1 okk3 ok1 e_σ5) okk3.1.2 (gE_0 okk3.1.1) rfl (g_goodV u_ml_RX3_29 u_im_yX0_copy u_se_yX0_copy u_in_RX0 u_co_yX0_copy) rfl rfl rfl (by decide +kernel) ⟨Nat.le_of_ble_eq_true rfl, Nat.le_of_ble_eq_true rfl⟩ rfl hl.1 rfl (Nat.le_of_ble_eq_true rfl) dX3_keep_45 ⟨Nat.zero_le _, Nat.zero_le _⟩) G (fun H locs G => ?_)
      refine lv_aload_n hx hb dX3_keep_48 rfl (lv_at hl 1 rfl) ?_
      refine lv_dup hx hb dX3_keep_49 rfl ?_
      refine gg3_2 C G ok.1 u_fl_RX3_18 dX3_keep_50 ?_
      refine lv_iconst (v := 1) hx hb dX3_keep_53 (by decide) ?_
      refine lv_iadd hx hb dX3_keep_54 ?_
      obtain ⟨σ6, e_σ6, h⟩ := g_let h
      refine gp3_2 C G ok.1 u_fl_RX3_18 dX3_keep_55 (fun H locs G => ?_)
      rw [e_σ6] at G
      exact ret dX3_keep_58 G (Option.some.inj h)
  · have h := g_if h c1
    refine lv_aload_n hx hb dX3_keep_8 rfl (lv_at hl 0 rfl) ?_
    refine lv_aload_n hx hb dX3_keep_9 rfl (lv_at hl 0 rfl) ?_
    refine gg3_1 C G ok.1 u_fl_RX3_22 dX3_keep_10 ?_
    refine lv_iconst (v := 1) hx hb dX3_keep_13 (by decide) ?_
    refine lv_iadd hx hb dX3_keep_14 ?_
    refine lv_iconst (v := 5) hx hb dX3_keep_15 (by decide) ?_
    refine lv_irem hx hb dX3_keep_16 (by decide) ?_
    obtain ⟨σ7, e_σ7, h⟩ := g_let h
    refine gp3_1 C G ok.1 u_fl_RX3_22 dX3_keep_17 (fun H locs G => ?_)
    rw [e_σ7] at G
    refine lv_aload_n hx hb dX3_keep_20 rfl (lv_at hl 0 rfl) ?_
    refine lv_dup hx hb dX3_keep_21 rfl ?_
    refine gg3_2 C G ok.1 u_fl_RX3_18 dX3_keep_22 ?_
    refine lv_iconst (v := 1) hx hb dX3_keep_25 (by decide) ?_
    refine lv_isub hx hb dX3_keep_26 ?_
    obtain ⟨σ8, e_σ8, h⟩ := g_let h
    refine gp3_2 C G ok.1 u_fl_RX3_18 dX3_keep_27 (fun H locs G => ?_)
    rw [e_σ8] at G
    refine lv_aload_n hx hb dX3_keep_30 rfl (lv_at hl 0 rfl) ?_
    refine lv_aload_n hx hb dX3_keep_31 rfl (lv_at hl 0 rfl) ?_
    refine gg3_2 C G ok.1 u_fl_RX3_18 dX3_keep_32 ?_
    obtain ⟨v9, e_v9, h⟩ := g_bind h
    refine g_callr (g_runV (n := 1) (As := [.int (σ8 t 2)]) (rest := []) C G (mX3_state l X σ8 t (σ8 t 2) v9 ok e_v9) ok.1.2 (gE_3 ok.1.1) rfl (g_goodV u_ml_RX3_25 u_im_yX3_state u_se_yX3_state u_in_RX3 u_co_yX3_state) rfl rfl rfl (by decide +kernel) ⟨Nat.le_of_ble_eq_true rfl, Nat.le_of_ble_eq_true rfl⟩ rfl hl.1 rfl (Nat.le_of_ble_eq_true rfl) dX3_keep_35 ⟨Nat.zero_le _, Nat.zero_le _⟩) G (fun H locs G => ?_)
    cases v9 with
    | none =>
      have h := g_gon h
      refine lv_astore_nN (lv' := [(2, .null), (0, .ref (xN X + t)), (1, .ref (xN X + o1))]) hx hb dX3_keep_38 rfl hl (by decide) rfl (fun ls hl => ?_)
      refine lv_aload_nN hx hb dX3_keep_39 rfl (lv_at hl 0 rfl) ?_
      refine lv_ifnullN (tgt := 58) hx hb dX3_keep_40 (by decide) ?_
      exact ret dX3_keep_58 G (Option.some.inj h)
    | some k10 =>
      have h := g_gos h
      have okk10 := okX3_state ok e_v9
      refine lv_astore_n (lv' := [(2, .ref (xN X + k10)), (0, .ref (xN X + t)), (1, .ref (xN X + o1))]) hx hb dX3_keep_38 rfl hl (by decide) rfl (fun ls hl => ?_)
      refine lv_aload_n hx hb dX3_keep_39 rfl (lv_at hl 0 rfl) ?_
      refine lv_ifnull hx hb dX3_keep_40 ?_
      refine lv_aload_n hx hb dX3_keep_43 rfl (lv_at hl 0 rfl) ?_
      refine lv_aload_n hx hb dX3_keep_44 rfl (lv_at hl 2 rfl) ?_
      obtain ⟨σ12, e_σ12, h⟩ := g_bind h
      refine g_callv (g_runV (n := 1) (As := [.ref (xN X + o1)]) (rest := []) C G (mX0_copy l X σ8 σ12 k10 o1 okk10 ok1 e_σ12) okk10.1.2 (gE_0 okk10.1.1) rfl (g_goodV u_ml_RX3_29 u_im_yX0_copy u_se_yX0_copy u_in_RX0 u_co_yX0_copy) rfl rfl rfl (by decide +kernel) ⟨Nat.le_of_ble_eq_true rfl, Nat.le_of_ble_eq_true rfl⟩ rfl hl.1 rfl (Nat.le_of_ble_eq_true rfl) dX3_keep_45 ⟨Nat.zero_le _, Nat.zero_le _⟩) G (fun H locs G => ?_)
      refine lv_aload_n hx hb dX3_keep_48 rfl (lv_at hl 1 rfl) ?_
      refine lv_dup hx hb dX3_keep_49 rfl ?_
      refine gg3_2 C G ok.1 u_fl_RX3_18 dX3_keep_50 ?_
      refine lv_iconst (v := 1) hx hb dX3_keep_53 (by decide) ?_
      refine lv_iadd hx hb dX3_keep_54 ?_
      obtain ⟨σ13, e_σ13, h⟩ := g_let h
      refine gp3_2 C G ok.1 u_fl_RX3_18 dX3_keep_55 (fun H locs G => ?_)
      rw [e_σ13] at G
      exact ret dX3_keep_58 G (Option.some.inj h)

def fX8_reset (σ : gM) (t : Nat) (a1 : Int32) (a2 : Int32) : Option (Int32 × gM) :=
  ((fX8_isWithin σ a1 1 6).bind fun v1 =>
  (if v1 = 0 then
    some ((-1001), σ)
  else
    ((fX8_isWithin σ a2 1 6).bind fun v3 =>
    (if v3 = 0 then
      some ((-1001), σ)
    else
      ((fX0_countLying σ (t + 1)).bind fun v5 =>
      ((fX3_keep σ (t + 31) (t + 1)).bind fun σ7 =>
      ((fX4_clear σ7 ((t + 1) + 8) a1 a2).bind fun σ9 =>
      some (v5, σ9))))))))
set_option maxHeartbeats 4000000 in
set_option maxRecDepth 100000 in
theorem mX8_reset (l : Launch) (X : gX) (σ σ' : gM) (t : Nat) (a1 : Int32) (a2 : Int32) (r : Int32) (ok : gok8 X t) (h : fX8_reset σ t a1 a2 = some (r, σ')) : Met l yX8_reset (Cond.code yX8_reset cX8_reset 4 (some .int) :: gBig) ({ frames := 5, cells := 0, slots := 0, locals := 150 }) (gPc X σ [.ref (xN X + t), .int a1, .int a2]) (gQi X σ' r) 0 0 (xA X) := by
  refine g_meti (cc := cX8_reset) (maxL := 4) (own := RX8) (by decide) rfl rfl (Nat.le_of_ble_eq_true rfl) ?_
  intro p ev s m args below meth c Q C G ret ls hl
  obtain ⟨⟨hx, hb, hml, hown, hts⟩, hK⟩ := id C
  have hl : lv_has ls 4 [(0, .ref (xN X + t)), (1, .int a1), (2, .int a2)] := hl
  unfold fX8_reset at h
  refine lv_iload_n hx hb dX8_reset_0 rfl (lv_at hl 1 rfl) ?_
  refine lv_iconst (v := 1) hx hb dX8_reset_1 (by decide) ?_
  refine lv_bipush (v := 6) hx hb dX8_reset_2 (by decide) ?_
  obtain ⟨v1, e_v1, h⟩ := g_bind h
  refine g_calli (g_runS (n := 3) (As := [.int a1, .int 1, .int 6]) (rest := []) C G (mX8_isWithin l X σ a1 1 6 v1 e_v1) (g_goodS u_ml_RX8_47 u_st_yX8_isWithin u_in_RX8 u_co_yX8_isWithin) rfl rfl rfl (by decide +kernel) ⟨Nat.le_of_ble_eq_true rfl, Nat.le_of_ble_eq_true rfl⟩ rfl hl.1 rfl (Nat.le_of_ble_eq_true rfl) dX8_reset_4 ⟨Nat.zero_le _, Nat.zero_le _⟩) G (fun H locs G => ?_)
  refine lv_if_eq (tgt := 20) hx hb dX8_reset_7 (by decide) (fun c2 => ?_) (fun c2 => ?_)
  · have h := g_it h c2
    refine lv_sipush (v := (-1001)) hx hb dX8_reset_20 (by decide) ?_
    exact ret dX8_reset_23 rfl G (Prod.mk.inj (Option.some.inj h))
  · have h := g_if h c2
    refine lv_iload_n hx hb dX8_reset_10 rfl (lv_at hl 2 rfl) ?_
    refine lv_iconst (v := 1) hx hb dX8_reset_11 (by decide) ?_
    refine lv_bipush (v := 6) hx hb dX8_reset_12 (by decide) ?_
    obtain ⟨v3, e_v3, h⟩ := g_bind h
    refine g_calli (g_runS (n := 3) (As := [.int a2, .int 1, .int 6]) (rest := []) C G (mX8_isWithin l X σ a2 1 6 v3 e_v3) (g_goodS u_ml_RX8_47 u_st_yX8_isWithin u_in_RX8 u_co_yX8_isWithin) rfl rfl rfl (by decide +kernel) ⟨Nat.le_of_ble_eq_true rfl, Nat.le_of_ble_eq_true rfl⟩ rfl hl.1 rfl (Nat.le_of_ble_eq_true rfl) dX8_reset_14 ⟨Nat.zero_le _, Nat.zero_le _⟩) G (fun H locs G => ?_)
    refine lv_if_ne (tgt := 24) hx hb dX8_reset_17 (by decide) (fun c4 => ?_) (fun c4 => ?_)
    · have h := g_if h c4
      refine lv_aload_n hx hb dX8_reset_24 rfl (lv_at hl 0 rfl) ?_
      refine gg8_0 C G ok.1 ok.2.1.1 u_fl_RX8_10 dX8_reset_25 ?_
      obtain ⟨v5, e_v5, h⟩ := g_bind h
      refine g_calli (g_runV (n := 0) (As := []) (rest := []) C G (mX0_countLying l X σ (t + 1) v5 ok.2.2.1 e_v5) ok.2.2.1.1.2 (gE_0 ok.2.2.1.1.1) rfl (g_goodV u_ml_RX8_51 u_im_yX0_countLying u_se_yX0_countLying u_in_RX0 u_co_yX0_countLying) rfl rfl rfl (by decide +kernel) ⟨Nat.le_of_ble_eq_true rfl, Nat.le_of_ble_eq_true rfl⟩ rfl hl.1 rfl (Nat.le_of_ble_eq_true rfl) dX8_reset_28 ⟨Nat.zero_le _, Nat.zero_le _⟩) G (fun H locs G => ?_)
      refine lv_istore_n (lv' := [(3, .int v5), (0, .ref (xN X + t)), (1, .int a1), (2, .int a2)]) hx hb dX8_reset_31 rfl hl (by decide) rfl (fun ls hl => ?_)
      refine lv_aload_n hx hb dX8_reset_32 rfl (lv_at hl 1 rfl) ?_
      refine gg8_2 C G ok.1 ok.2.1.2.2.1 u_fl_RX8_22 dX8_reset_33 ?_
      refine lv_aload_n hx hb dX8_reset_36 rfl (lv_at hl 1 rfl) ?_
      refine gg8_0 C G ok.1 ok.2.1.1 u_fl_RX8_10 dX8_reset_37 ?_
      obtain ⟨σ7, e_σ7, h⟩ := g_bind h
      refine g_callv (g_runV (n := 1) (As := [.ref (xN X + (t + 1))]) (rest := []) C G (mX3_keep l X σ σ7 (t + 31) (t + 1) ok.2.2.2.2.1 ok.2.2.1 e_σ7) ok.2.2.2.2.1.1.2 (gE_3 ok.2.2.2.2.1.1.1) rfl (g_goodV u_ml_RX8_55 u_im_yX3_keep u_se_yX3_keep u_in_RX3 u_co_yX3_keep) rfl rfl rfl (by decide +kernel) ⟨Nat.le_of_ble_eq_true rfl, Nat.le_of_ble_eq_true rfl⟩ rfl hl.1 rfl (Nat.le_of_ble_eq_true rfl) dX8_reset_40 ⟨Nat.zero_le _, Nat.zero_le _⟩) G (fun H locs G => ?_)
      refine lv_aload_n hx hb dX8_reset_43 rfl (lv_at hl 1 rfl) ?_
      refine gg8_0 C G ok.1 ok.2.1.1 u_fl_RX8_10 dX8_reset_44 ?_
      refine gn0_1 C G ok.2.2.1.1 ok.2.2.1.2.1.2 (List.mem_of_getElem? (i := 3) rfl) dX8_reset_47 ?_
      refine lv_iload_n hx hb dX8_reset_50 rfl (lv_at hl 2 rfl) ?_
      refine lv_iload_n hx hb dX8_reset_51 rfl (lv_at hl 3 rfl) ?_
      obtain ⟨σ9, e_σ9, h⟩ := g_bind h
      refine g_callv (g_runV (n := 2) (As := [.int a1, .int a2]) (rest := []) C G (mX4_clear l X σ7 σ9 ((t + 1) + 8) a1 a2 ok.2.2.1.2.2.2 e_σ9) ok.2.2.1.2.2.2.1.2 (gE_4 ok.2.2.1.2.2.2.1.1) rfl (g_goodV u_ml_RX8_63 u_im_yX4_clear u_se_yX4_clear u_in_RX4 u_co_yX4_clear) rfl rfl rfl (by decide +kernel) ⟨Nat.le_of_ble_eq_true rfl, Nat.le_of_ble_eq_true rfl⟩ rfl hl.1 rfl (Nat.le_of_ble_eq_true rfl) dX8_reset_52 ⟨Nat.zero_le _, Nat.zero_le _⟩) G (fun H locs G => ?_)
      refine lv_iload_n hx hb dX8_reset_55 rfl (lv_at hl 0 rfl) ?_
      exact ret dX8_reset_56 rfl G (Prod.mk.inj (Option.some.inj h))
    · have h := g_it h c4
      refine lv_sipush (v := (-1001)) hx hb dX8_reset_20 (by decide) ?_
      exact ret dX8_reset_23 rfl G (Prod.mk.inj (Option.some.inj h))

def fX8_isProfile (σ : gM) (a1 : Int32) : Option (Int32) :=
  ((fX8_isWithin σ a1 (-1) 999).bind fun v1 =>
  (if v1 = 0 ∨ v1 = 1 then
  some v1
  else none))
set_option maxHeartbeats 4000000 in
set_option maxRecDepth 100000 in
theorem mX8_isProfile (l : Launch) (X : gX) (σ : gM) (a1 : Int32) (r : Int32) (h : fX8_isProfile σ a1 = some r) : Met l yX8_isProfile (Cond.code yX8_isProfile cX8_isProfile 1 (some .boolean) :: gBig) ({ frames := 1, cells := 0, slots := 0, locals := 22 }) (gPc X σ [.int a1]) (gQi X σ r) 0 0 (xA X) := by
  refine g_meti (cc := cX8_isProfile) (maxL := 1) (own := RX8) (by decide) rfl rfl (Nat.le_of_ble_eq_true rfl) ?_
  intro p ev s m args below meth c Q C G ret ls hl
  obtain ⟨⟨hx, hb, hml, hown, hts⟩, hK⟩ := id C
  have hl : lv_has ls 1 [(0, .int a1)] := hl
  unfold fX8_isProfile at h
  refine lv_iload_n hx hb dX8_isProfile_0 rfl (lv_at hl 0 rfl) ?_
  refine lv_iconst (v := (-1)) hx hb dX8_isProfile_1 (by decide) ?_
  refine lv_sipush (v := 999) hx hb dX8_isProfile_2 (by decide) ?_
  obtain ⟨v1, e_v1, h⟩ := g_bind h
  refine g_calli (g_runS (n := 3) (As := [.int a1, .int (-1), .int 999]) (rest := []) C G (mX8_isWithin l X σ a1 (-1) 999 v1 e_v1) (g_goodS u_ml_RX8_47 u_st_yX8_isWithin u_in_RX8 u_co_yX8_isWithin) rfl rfl rfl (by decide +kernel) ⟨Nat.le_of_ble_eq_true rfl, Nat.le_of_ble_eq_true rfl⟩ rfl hl.1 rfl (Nat.le_of_ble_eq_true rfl) dX8_isProfile_5 ⟨Nat.zero_le _, Nat.zero_le _⟩) G (fun H locs G => ?_)
  obtain ⟨c2, h⟩ := g_chk h
  exact ret dX8_isProfile_8 (g_z c2) G ⟨Option.some.inj h, rfl⟩

def fX5_set (σ : gM) (t : Nat) (a1 : Int32) (a2 : Int32) : Option (gM) :=
  (if a1 < 0 then
    some σ
  else
    (if (nI (gln (t + 1))) ≤ a1 then
      some σ
    else
      (if ¬ (a1 < 0 ∨ gln (t + 1) ≤ a1.toNatClampNeg) then
      (gl (gset σ (t + 1) (upd (σ (t + 1)) a1.toNatClampNeg a2)) fun σ4 =>
      some σ4)
      else none)))
set_option maxHeartbeats 4000000 in
set_option maxRecDepth 100000 in
theorem mX5_set (l : Launch) (X : gX) (σ σ' : gM) (t : Nat) (a1 : Int32) (a2 : Int32) (ok : gok5 X t) (h : fX5_set σ t a1 a2 = some σ') : Met l yX5_set (Cond.code yX5_set cX5_set 3 none :: gBig) ({ frames := 0, cells := 0, slots := 0, locals := 0 }) (gPc X σ [.ref (xN X + t), .int a1, .int a2]) (gQv X σ') 0 0 (xA X) := by
  refine g_metv (cc := cX5_set) (maxL := 3) (own := RX5) (by decide) rfl rfl (Nat.le_of_ble_eq_true rfl) ?_
  intro p ev s m args below meth c Q C G ret ls hl
  obtain ⟨⟨hx, hb, hml, hown, hts⟩, hK⟩ := id C
  have hl : lv_has ls 3 [(0, .ref (xN X + t)), (1, .int a1), (2, .int a2)] := hl
  unfold fX5_set at h
  refine lv_iload_n hx hb dX5_set_0 rfl (lv_at hl 1 rfl) ?_
  refine lv_if_lt (tgt := 20) hx hb dX5_set_1 (by decide) (fun c1 => ?_) (fun c1 => ?_)
  · have h := g_it h c1
    exact ret dX5_set_20 G (Option.some.inj h)
  · have h := g_if h c1
    refine lv_iload_n hx hb dX5_set_4 rfl (lv_at hl 1 rfl) ?_
    refine lv_aload_n hx hb dX5_set_5 rfl (lv_at hl 0 rfl) ?_
    refine gg5_0 C G ok.1 ok.2.1 u_fl_RX5_15 dX5_set_6 ?_
    refine g_alen C G ok.2.2 dX5_set_9 ?_
    refine lv_icmp_ge (tgt := 20) hx hb dX5_set_10 (by decide) (fun c2 => ?_) (fun c2 => ?_)
    · have h := g_it h c2
      exact ret dX5_set_20 G (Option.some.inj h)
    · have h := g_if h c2
      refine lv_aload_n hx hb dX5_set_13 rfl (lv_at hl 0 rfl) ?_
      refine gg5_0 C G ok.1 ok.2.1 u_fl_RX5_15 dX5_set_14 ?_
      refine lv_iload_n hx hb dX5_set_17 rfl (lv_at hl 1 rfl) ?_
      refine lv_iload_n hx hb dX5_set_18 rfl (lv_at hl 2 rfl) ?_
      obtain ⟨c3, h⟩ := g_chk h
      obtain ⟨σ4, e_σ4, h⟩ := g_let h
      refine g_iast C G ok.2.2 c3 dX5_set_19 (fun H locs G => ?_)
      rw [e_σ4] at G
      exact ret dX5_set_20 G (Option.some.inj h)

def fX1_setEdge (σ : gM) (t : Nat) (a1 : Int32) (a2 : Int32) (a3 : Int32) : Option (gM) :=
  ((fX5_set σ (t + 1) a1 a2).bind fun σ2 =>
  ((fX5_set σ2 (t + 3) a1 a3).bind fun σ4 =>
  some σ4))
set_option maxHeartbeats 4000000 in
set_option maxRecDepth 100000 in
theorem mX1_setEdge (l : Launch) (X : gX) (σ σ' : gM) (t : Nat) (a1 : Int32) (a2 : Int32) (a3 : Int32) (ok : gok1 X t) (h : fX1_setEdge σ t a1 a2 a3 = some σ') : Met l yX1_setEdge (Cond.code yX1_setEdge cX1_setEdge 4 none :: gBig) ({ frames := 1, cells := 0, slots := 0, locals := 22 }) (gPc X σ [.ref (xN X + t), .int a1, .int a2, .int a3]) (gQv X σ') 0 0 (xA X) := by
  refine g_metv (cc := cX1_setEdge) (maxL := 4) (own := RX1) (by decide) rfl rfl (Nat.le_of_ble_eq_true rfl) ?_
  intro p ev s m args below meth c Q C G ret ls hl
  obtain ⟨⟨hx, hb, hml, hown, hts⟩, hK⟩ := id C
  have hl : lv_has ls 4 [(0, .ref (xN X + t)), (1, .int a1), (2, .int a2), (3, .int a3)] := hl
  unfold fX1_setEdge at h
  refine lv_aload_n hx hb dX1_setEdge_0 rfl (lv_at hl 0 rfl) ?_
  refine gg1_0 C G ok.1 ok.2.1.1 u_fl_RX1_14 dX1_setEdge_1 ?_
  refine lv_iload_n hx hb dX1_setEdge_4 rfl (lv_at hl 1 rfl) ?_
  refine lv_iload_n hx hb dX1_setEdge_5 rfl (lv_at hl 2 rfl) ?_
  obtain ⟨σ2, e_σ2, h⟩ := g_bind h
  refine g_callv (g_runV (n := 2) (As := [.int a1, .int a2]) (rest := []) C G (mX5_set l X σ σ2 (t + 1) a1 a2 ok.2.2.1 e_σ2) ok.2.2.1.1.2 (gE_5 ok.2.2.1.1.1) rfl (g_goodV u_ml_RX1_23 u_im_yX5_set u_se_yX5_set u_in_RX5 u_co_yX5_set) rfl rfl rfl (by decide +kernel) ⟨Nat.le_of_ble_eq_true rfl, Nat.le_of_ble_eq_true rfl⟩ rfl hl.1 rfl (Nat.le_of_ble_eq_true rfl) dX1_setEdge_6 ⟨Nat.zero_le _, Nat.zero_le _⟩) G (fun H locs G => ?_)
  refine lv_aload_n hx hb dX1_setEdge_9 rfl (lv_at hl 0 rfl) ?_
  refine gg1_1 C G ok.1 ok.2.1.2 u_fl_RX1_20 dX1_setEdge_10 ?_
  refine lv_iload_n hx hb dX1_setEdge_13 rfl (lv_at hl 1 rfl) ?_
  refine lv_iload_n hx hb dX1_setEdge_14 rfl (lv_at hl 3 rfl) ?_
  obtain ⟨σ4, e_σ4, h⟩ := g_bind h
  refine g_callv (g_runV (n := 2) (As := [.int a1, .int a3]) (rest := []) C G (mX5_set l X σ2 σ4 (t + 3) a1 a3 ok.2.2.2 e_σ4) ok.2.2.2.1.2 (gE_5 ok.2.2.2.1.1) rfl (g_goodV u_ml_RX1_23 u_im_yX5_set u_se_yX5_set u_in_RX5 u_co_yX5_set) rfl rfl rfl (by decide +kernel) ⟨Nat.le_of_ble_eq_true rfl, Nat.le_of_ble_eq_true rfl⟩ rfl hl.1 rfl (Nat.le_of_ble_eq_true rfl) dX1_setEdge_15 ⟨Nat.zero_le _, Nat.zero_le _⟩) G (fun H locs G => ?_)
  exact ret dX1_setEdge_18 G (Option.some.inj h)

def fX1_setKind (σ : gM) (t : Nat) (a1 : Int32) : Option (gM) :=
  (gl (gset σ t (upd (σ t) 2 a1)) fun σ1 =>
  some σ1)
set_option maxHeartbeats 4000000 in
set_option maxRecDepth 100000 in
theorem mX1_setKind (l : Launch) (X : gX) (σ σ' : gM) (t : Nat) (a1 : Int32) (ok : gok1 X t) (h : fX1_setKind σ t a1 = some σ') : Met l yX1_setKind (Cond.code yX1_setKind cX1_setKind 2 none :: gBig) ({ frames := 0, cells := 0, slots := 0, locals := 0 }) (gPc X σ [.ref (xN X + t), .int a1]) (gQv X σ') 0 0 (xA X) := by
  refine g_metv (cc := cX1_setKind) (maxL := 2) (own := RX1) (by decide) rfl rfl (Nat.le_of_ble_eq_true rfl) ?_
  intro p ev s m args below meth c Q C G ret ls hl
  obtain ⟨⟨hx, hb, hml, hown, hts⟩, hK⟩ := id C
  have hl : lv_has ls 2 [(0, .ref (xN X + t)), (1, .int a1)] := hl
  unfold fX1_setKind at h
  refine lv_aload_n hx hb dX1_setKind_0 rfl (lv_at hl 0 rfl) ?_
  refine lv_iload_n hx hb dX1_setKind_1 rfl (lv_at hl 1 rfl) ?_
  obtain ⟨σ1, e_σ1, h⟩ := g_let h
  refine gp1_2 C G ok.1 u_fl_RX1_27 dX1_setKind_2 (fun H locs G => ?_)
  rw [e_σ1] at G
  exact ret dX1_setKind_5 G (Option.some.inj h)

def fX1_kind (σ : gM) (t : Nat) : Option (Int32) :=
  some (σ t 2)
set_option maxHeartbeats 4000000 in
set_option maxRecDepth 100000 in
theorem mX1_kind (l : Launch) (X : gX) (σ : gM) (t : Nat) (r : Int32) (ok : gok1 X t) (h : fX1_kind σ t = some r) : Met l yX1_kind (Cond.code yX1_kind cX1_kind 1 (some .int) :: gBig) ({ frames := 0, cells := 0, slots := 0, locals := 0 }) (gPc X σ [.ref (xN X + t)]) (gQi X σ r) 0 0 (xA X) := by
  refine g_meti (cc := cX1_kind) (maxL := 1) (own := RX1) (by decide) rfl rfl (Nat.le_of_ble_eq_true rfl) ?_
  intro p ev s m args below meth c Q C G ret ls hl
  obtain ⟨⟨hx, hb, hml, hown, hts⟩, hK⟩ := id C
  have hl : lv_has ls 1 [(0, .ref (xN X + t))] := hl
  unfold fX1_kind at h
  refine lv_aload_n hx hb dX1_kind_0 rfl (lv_at hl 0 rfl) ?_
  refine gg1_2 C G ok.1 u_fl_RX1_27 dX1_kind_1 ?_
  exact ret dX1_kind_4 rfl G ⟨Option.some.inj h, rfl⟩

def fX1_unturned (σ : gM) (a1 : Int32) (a2 : Int32) : Option (Int32) :=
  some ((a2 - a1) &&& 3)
set_option maxHeartbeats 4000000 in
set_option maxRecDepth 100000 in
theorem mX1_unturned (l : Launch) (X : gX) (σ : gM) (a1 : Int32) (a2 : Int32) (r : Int32) (h : fX1_unturned σ a1 a2 = some r) : Met l yX1_unturned (Cond.code yX1_unturned cX1_unturned 2 (some .int) :: gBig) ({ frames := 0, cells := 0, slots := 0, locals := 0 }) (gPc X σ [.int a1, .int a2]) (gQi X σ r) 0 0 (xA X) := by
  refine g_meti (cc := cX1_unturned) (maxL := 2) (own := RX1) (by decide) rfl rfl (Nat.le_of_ble_eq_true rfl) ?_
  intro p ev s m args below meth c Q C G ret ls hl
  obtain ⟨⟨hx, hb, hml, hown, hts⟩, hK⟩ := id C
  have hl : lv_has ls 2 [(0, .int a1), (1, .int a2)] := hl
  unfold fX1_unturned at h
  refine lv_iload_n hx hb dX1_unturned_0 rfl (lv_at hl 1 rfl) ?_
  refine lv_iload_n hx hb dX1_unturned_1 rfl (lv_at hl 0 rfl) ?_
  refine lv_isub hx hb dX1_unturned_2 ?_
  refine lv_iconst (v := 3) hx hb dX1_unturned_3 (by decide) ?_
  refine lv_iand hx hb dX1_unturned_4 ?_
  exact ret dX1_unturned_5 rfl G ⟨Option.some.inj h, rfl⟩

def fX1_origin (σ : gM) (a1 : Int32) (a2 : Int32) : Option (Int32) :=
  ((fX1_unturned σ a1 a2).bind fun v1 =>
  (if a1 < 4 then
    some v1
  else
    some ((4 - v1) &&& 3)))
set_option maxHeartbeats 4000000 in
set_option maxRecDepth 100000 in
theorem mX1_origin (l : Launch) (X : gX) (σ : gM) (a1 : Int32) (a2 : Int32) (r : Int32) (h : fX1_origin σ a1 a2 = some r) : Met l yX1_origin (Cond.code yX1_origin cX1_origin 3 (some .int) :: gBig) ({ frames := 1, cells := 0, slots := 0, locals := 21 }) (gPc X σ [.int a1, .int a2]) (gQi X σ r) 0 0 (xA X) := by
  refine g_meti (cc := cX1_origin) (maxL := 3) (own := RX1) (by decide) rfl rfl (Nat.le_of_ble_eq_true rfl) ?_
  intro p ev s m args below meth c Q C G ret ls hl
  obtain ⟨⟨hx, hb, hml, hown, hts⟩, hK⟩ := id C
  have hl : lv_has ls 3 [(0, .int a1), (1, .int a2)] := hl
  unfold fX1_origin at h
  refine lv_iload_n hx hb dX1_origin_0 rfl (lv_at hl 0 rfl) ?_
  refine lv_iload_n hx hb dX1_origin_1 rfl (lv_at hl 1 rfl) ?_
  obtain ⟨v1, e_v1, h⟩ := g_bind h
  refine g_calli (g_runS (n := 2) (As := [.int a1, .int a2]) (rest := []) C G (mX1_unturned l X σ a1 a2 v1 e_v1) (g_goodS u_ml_RX1_46 u_st_yX1_unturned u_in_RX1 u_co_yX1_unturned) rfl rfl rfl (by decide +kernel) ⟨Nat.le_of_ble_eq_true rfl, Nat.le_of_ble_eq_true rfl⟩ rfl hl.1 rfl (Nat.le_of_ble_eq_true rfl) dX1_origin_2 ⟨Nat.zero_le _, Nat.zero_le _⟩) G (fun H locs G => ?_)
  refine lv_istore_n (lv' := [(2, .int v1), (0, .int a1), (1, .int a2)]) hx hb dX1_origin_5 rfl hl (by decide) rfl (fun ls hl => ?_)
  refine lv_iload_n hx hb dX1_origin_6 rfl (lv_at hl 1 rfl) ?_
  refine lv_iconst (v := 4) hx hb dX1_origin_7 (by decide) ?_
  refine lv_icmp_lt (tgt := 19) hx hb dX1_origin_8 (by decide) (fun c2 => ?_) (fun c2 => ?_)
  · have h := g_it h c2
    refine lv_iload_n hx hb dX1_origin_19 rfl (lv_at hl 0 rfl) ?_
    exact ret dX1_origin_20 rfl G ⟨Option.some.inj h, rfl⟩
  · have h := g_if h c2
    refine lv_iconst (v := 4) hx hb dX1_origin_11 (by decide) ?_
    refine lv_iload_n hx hb dX1_origin_12 rfl (lv_at hl 0 rfl) ?_
    refine lv_isub hx hb dX1_origin_13 ?_
    refine lv_iconst (v := 3) hx hb dX1_origin_14 (by decide) ?_
    refine lv_iand hx hb dX1_origin_15 ?_
    refine lv_goto (tgt := 20) hx hb dX1_origin_16 (by decide) ?_
    exact ret dX1_origin_20 rfl G ⟨Option.some.inj h, rfl⟩

def fX1_isToldClockwise (σ : gM) (a1 : Int32) : Option (Int32) :=
  (if a1 = 0 then
    some 1
  else
    (if a1 = 1 then
      some 1
    else
      some 0))
set_option maxHeartbeats 4000000 in
set_option maxRecDepth 100000 in
theorem mX1_isToldClockwise (l : Launch) (X : gX) (σ : gM) (a1 : Int32) (r : Int32) (h : fX1_isToldClockwise σ a1 = some r) : Met l yX1_isToldClockwise (Cond.code yX1_isToldClockwise cX1_isToldClockwise 1 (some .boolean) :: gBig) ({ frames := 0, cells := 0, slots := 0, locals := 0 }) (gPc X σ [.int a1]) (gQi X σ r) 0 0 (xA X) := by
  refine g_meti (cc := cX1_isToldClockwise) (maxL := 1) (own := RX1) (by decide) rfl rfl (Nat.le_of_ble_eq_true rfl) ?_
  intro p ev s m args below meth c Q C G ret ls hl
  obtain ⟨⟨hx, hb, hml, hown, hts⟩, hK⟩ := id C
  have hl : lv_has ls 1 [(0, .int a1)] := hl
  unfold fX1_isToldClockwise at h
  refine lv_iload_n hx hb dX1_isToldClockwise_0 rfl (lv_at hl 0 rfl) ?_
  refine lv_if_eq (tgt := 9) hx hb dX1_isToldClockwise_1 (by decide) (fun c1 => ?_) (fun c1 => ?_)
  · have h := g_it h c1
    refine lv_iconst (v := 1) hx hb dX1_isToldClockwise_9 (by decide) ?_
    refine lv_goto (tgt := 14) hx hb dX1_isToldClockwise_10 (by decide) ?_
    exact ret dX1_isToldClockwise_14 rfl G ⟨Option.some.inj h, rfl⟩
  · have h := g_if h c1
    refine lv_iload_n hx hb dX1_isToldClockwise_4 rfl (lv_at hl 0 rfl) ?_
    refine lv_iconst (v := 1) hx hb dX1_isToldClockwise_5 (by decide) ?_
    refine lv_icmp_ne (tgt := 13) hx hb dX1_isToldClockwise_6 (by decide) (fun c2 => ?_) (fun c2 => ?_)
    · have h := g_if h c2
      refine lv_iconst (v := 0) hx hb dX1_isToldClockwise_13 (by decide) ?_
      exact ret dX1_isToldClockwise_14 rfl G ⟨Option.some.inj h, rfl⟩
    · have h := g_it h c2
      refine lv_iconst (v := 1) hx hb dX1_isToldClockwise_9 (by decide) ?_
      refine lv_goto (tgt := 14) hx hb dX1_isToldClockwise_10 (by decide) ?_
      exact ret dX1_isToldClockwise_14 rfl G ⟨Option.some.inj h, rfl⟩

def fX1_isReversed (σ : gM) (a1 : Int32) (a2 : Int32) : Option (Int32) :=
  ((fX1_unturned σ a1 a2).bind fun v1 =>
  ((fX1_isToldClockwise σ v1).bind fun v2 =>
  ((fX1_isToldClockwise σ a2).bind fun v3 =>
  (if v2 = v3 then
    (if a1 < 4 then
      some 0
    else
      (if v1 = 0 then
        some 1
      else
        (if v1 = 2 then
          some 1
        else
          some 0)))
  else
    (if a1 < 4 then
      some 1
    else
      (if v1 = 0 then
        some 0
      else
        (if v1 = 2 then
          some 0
        else
          some 1)))))))
set_option maxHeartbeats 4000000 in
set_option maxRecDepth 100000 in
theorem mX1_isReversed (l : Launch) (X : gX) (σ : gM) (a1 : Int32) (a2 : Int32) (r : Int32) (h : fX1_isReversed σ a1 a2 = some r) : Met l yX1_isReversed (Cond.code yX1_isReversed cX1_isReversed 5 (some .boolean) :: gBig) ({ frames := 1, cells := 0, slots := 0, locals := 21 }) (gPc X σ [.int a1, .int a2]) (gQi X σ r) 0 0 (xA X) := by
  refine g_meti (cc := cX1_isReversed) (maxL := 5) (own := RX1) (by decide) rfl rfl (Nat.le_of_ble_eq_true rfl) ?_
  intro p ev s m args below meth c Q C G ret ls hl
  obtain ⟨⟨hx, hb, hml, hown, hts⟩, hK⟩ := id C
  have hl : lv_has ls 5 [(0, .int a1), (1, .int a2)] := hl
  unfold fX1_isReversed at h
  refine lv_iload_n hx hb dX1_isReversed_0 rfl (lv_at hl 0 rfl) ?_
  refine lv_iload_n hx hb dX1_isReversed_1 rfl (lv_at hl 1 rfl) ?_
  obtain ⟨v1, e_v1, h⟩ := g_bind h
  refine g_calli (g_runS (n := 2) (As := [.int a1, .int a2]) (rest := []) C G (mX1_unturned l X σ a1 a2 v1 e_v1) (g_goodS u_ml_RX1_46 u_st_yX1_unturned u_in_RX1 u_co_yX1_unturned) rfl rfl rfl (by decide +kernel) ⟨Nat.le_of_ble_eq_true rfl, Nat.le_of_ble_eq_true rfl⟩ rfl hl.1 rfl (Nat.le_of_ble_eq_true rfl) dX1_isReversed_2 ⟨Nat.zero_le _, Nat.zero_le _⟩) G (fun H locs G => ?_)
  refine lv_istore_n (lv' := [(2, .int v1), (0, .int a1), (1, .int a2)]) hx hb dX1_isReversed_5 rfl hl (by decide) rfl (fun ls hl => ?_)
  refine lv_iload_n hx hb dX1_isReversed_6 rfl (lv_at hl 0 rfl) ?_
  obtain ⟨v2, e_v2, h⟩ := g_bind h
  refine g_calli (g_runS (n := 1) (As := [.int v1]) (rest := []) C G (mX1_isToldClockwise l X σ v1 v2 e_v2) (g_goodS u_ml_RX1_49 u_st_yX1_isToldClockwise u_in_RX1 u_co_yX1_isToldClockwise) rfl rfl rfl (by decide +kernel) ⟨Nat.le_of_ble_eq_true rfl, Nat.le_of_ble_eq_true rfl⟩ rfl hl.1 rfl (Nat.le_of_ble_eq_true rfl) dX1_isReversed_7 ⟨Nat.zero_le _, Nat.zero_le _⟩) G (fun H locs G => ?_)
  refine lv_iload_n hx hb dX1_isReversed_10 rfl (lv_at hl 2 rfl) ?_
  obtain ⟨v3, e_v3, h⟩ := g_bind h
  refine g_calli (g_runS (n := 1) (As := [.int a2]) (rest := [.int v2]) C G (mX1_isToldClockwise l X σ a2 v3 e_v3) (g_goodS u_ml_RX1_49 u_st_yX1_isToldClockwise u_in_RX1 u_co_yX1_isToldClockwise) rfl rfl rfl (by decide +kernel) ⟨Nat.le_of_ble_eq_true rfl, Nat.le_of_ble_eq_true rfl⟩ rfl hl.1 rfl (Nat.le_of_ble_eq_true rfl) dX1_isReversed_11 ⟨Nat.zero_le _, Nat.zero_le _⟩) G (fun H locs G => ?_)
  refine lv_icmp_eq (tgt := 21) hx hb dX1_isReversed_14 (by decide) (fun c4 => ?_) (fun c4 => ?_)
  · have h := g_it h c4
    refine lv_iconst (v := 0) hx hb dX1_isReversed_21 (by decide) ?_
    refine lv_istore_n (lv' := [(3, .int 0), (2, .int v1), (0, .int a1), (1, .int a2)]) hx hb dX1_isReversed_22 rfl hl (by decide) rfl (fun ls hl => ?_)
    refine lv_iload_n hx hb dX1_isReversed_23 rfl (lv_at hl 2 rfl) ?_
    refine lv_iconst (v := 4) hx hb dX1_isReversed_24 (by decide) ?_
    refine lv_icmp_lt (tgt := 41) hx hb dX1_isReversed_25 (by decide) (fun c5 => ?_) (fun c5 => ?_)
    · have h := g_it h c5
      refine lv_iconst (v := 0) hx hb dX1_isReversed_41 (by decide) ?_
      refine lv_istore (lv' := [(4, .int 0), (3, .int 0), (2, .int v1), (0, .int a1), (1, .int a2)]) hx hb dX1_isReversed_42 hl (by decide) rfl (fun ls hl => ?_)
      refine lv_iload_n hx hb dX1_isReversed_44 rfl (lv_at hl 1 rfl) ?_
      refine lv_iload hx hb dX1_isReversed_45 (lv_at hl 0 rfl) ?_
      refine lv_icmp_eq (tgt := 54) hx hb dX1_isReversed_47 (by decide) (fun _ => ?_) (fun c6 => absurd c6 (by decide))
      refine lv_iconst (v := 0) hx hb dX1_isReversed_54 (by decide) ?_
      exact ret dX1_isReversed_55 rfl G ⟨Option.some.inj h, rfl⟩
    · have h := g_if h c5
      refine lv_iload_n hx hb dX1_isReversed_28 rfl (lv_at hl 1 rfl) ?_
      refine lv_if_eq (tgt := 37) hx hb dX1_isReversed_29 (by decide) (fun c7 => ?_) (fun c7 => ?_)
      · have h := g_it h c7
        refine lv_iconst (v := 1) hx hb dX1_isReversed_37 (by decide) ?_
        refine lv_goto (tgt := 42) hx hb dX1_isReversed_38 (by decide) ?_
        refine lv_istore (lv' := [(4, .int 1), (3, .int 0), (2, .int v1), (0, .int a1), (1, .int a2)]) hx hb dX1_isReversed_42 hl (by decide) rfl (fun ls hl => ?_)
        refine lv_iload_n hx hb dX1_isReversed_44 rfl (lv_at hl 1 rfl) ?_
        refine lv_iload hx hb dX1_isReversed_45 (lv_at hl 0 rfl) ?_
        refine lv_icmp_eq (tgt := 54) hx hb dX1_isReversed_47 (by decide) (fun c8 => absurd c8 (by decide)) (fun _ => ?_)
        refine lv_iconst (v := 1) hx hb dX1_isReversed_50 (by decide) ?_
        refine lv_goto (tgt := 55) hx hb dX1_isReversed_51 (by decide) ?_
        exact ret dX1_isReversed_55 rfl G ⟨Option.some.inj h, rfl⟩
      · have h := g_if h c7
        refine lv_iload_n hx hb dX1_isReversed_32 rfl (lv_at hl 1 rfl) ?_
        refine lv_iconst (v := 2) hx hb dX1_isReversed_33 (by decide) ?_
        refine lv_icmp_ne (tgt := 41) hx hb dX1_isReversed_34 (by decide) (fun c9 => ?_) (fun c9 => ?_)
        · have h := g_if h c9
          refine lv_iconst (v := 0) hx hb dX1_isReversed_41 (by decide) ?_
          refine lv_istore (lv' := [(4, .int 0), (3, .int 0), (2, .int v1), (0, .int a1), (1, .int a2)]) hx hb dX1_isReversed_42 hl (by decide) rfl (fun ls hl => ?_)
          refine lv_iload_n hx hb dX1_isReversed_44 rfl (lv_at hl 1 rfl) ?_
          refine lv_iload hx hb dX1_isReversed_45 (lv_at hl 0 rfl) ?_
          refine lv_icmp_eq (tgt := 54) hx hb dX1_isReversed_47 (by decide) (fun _ => ?_) (fun c11 => absurd c11 (by decide))
          refine lv_iconst (v := 0) hx hb dX1_isReversed_54 (by decide) ?_
          exact ret dX1_isReversed_55 rfl G ⟨Option.some.inj h, rfl⟩
        · have h := g_it h c9
          refine lv_iconst (v := 1) hx hb dX1_isReversed_37 (by decide) ?_
          refine lv_goto (tgt := 42) hx hb dX1_isReversed_38 (by decide) ?_
          refine lv_istore (lv' := [(4, .int 1), (3, .int 0), (2, .int v1), (0, .int a1), (1, .int a2)]) hx hb dX1_isReversed_42 hl (by decide) rfl (fun ls hl => ?_)
          refine lv_iload_n hx hb dX1_isReversed_44 rfl (lv_at hl 1 rfl) ?_
          refine lv_iload hx hb dX1_isReversed_45 (lv_at hl 0 rfl) ?_
          refine lv_icmp_eq (tgt := 54) hx hb dX1_isReversed_47 (by decide) (fun c10 => absurd c10 (by decide)) (fun _ => ?_)
          refine lv_iconst (v := 1) hx hb dX1_isReversed_50 (by decide) ?_
          refine lv_goto (tgt := 55) hx hb dX1_isReversed_51 (by decide) ?_
          exact ret dX1_isReversed_55 rfl G ⟨Option.some.inj h, rfl⟩
  · have h := g_if h c4
    refine lv_iconst (v := 1) hx hb dX1_isReversed_17 (by decide) ?_
    refine lv_goto (tgt := 22) hx hb dX1_isReversed_18 (by decide) ?_
    refine lv_istore_n (lv' := [(3, .int 1), (2, .int v1), (0, .int a1), (1, .int a2)]) hx hb dX1_isReversed_22 rfl hl (by decide) rfl (fun ls hl => ?_)
    refine lv_iload_n hx hb dX1_isReversed_23 rfl (lv_at hl 2 rfl) ?_
    refine lv_iconst (v := 4) hx hb dX1_isReversed_24 (by decide) ?_
    refine lv_icmp_lt (tgt := 41) hx hb dX1_isReversed_25 (by decide) (fun c12 => ?_) (fun c12 => ?_)
    · have h := g_it h c12
      refine lv_iconst (v := 0) hx hb dX1_isReversed_41 (by decide) ?_
      refine lv_istore (lv' := [(4, .int 0), (3, .int 1), (2, .int v1), (0, .int a1), (1, .int a2)]) hx hb dX1_isReversed_42 hl (by decide) rfl (fun ls hl => ?_)
      refine lv_iload_n hx hb dX1_isReversed_44 rfl (lv_at hl 1 rfl) ?_
      refine lv_iload hx hb dX1_isReversed_45 (lv_at hl 0 rfl) ?_
      refine lv_icmp_eq (tgt := 54) hx hb dX1_isReversed_47 (by decide) (fun c13 => absurd c13 (by decide)) (fun _ => ?_)
      refine lv_iconst (v := 1) hx hb dX1_isReversed_50 (by decide) ?_
      refine lv_goto (tgt := 55) hx hb dX1_isReversed_51 (by decide) ?_
      exact ret dX1_isReversed_55 rfl G ⟨Option.some.inj h, rfl⟩
    · have h := g_if h c12
      refine lv_iload_n hx hb dX1_isReversed_28 rfl (lv_at hl 1 rfl) ?_
      refine lv_if_eq (tgt := 37) hx hb dX1_isReversed_29 (by decide) (fun c14 => ?_) (fun c14 => ?_)
      · have h := g_it h c14
        refine lv_iconst (v := 1) hx hb dX1_isReversed_37 (by decide) ?_
        refine lv_goto (tgt := 42) hx hb dX1_isReversed_38 (by decide) ?_
        refine lv_istore (lv' := [(4, .int 1), (3, .int 1), (2, .int v1), (0, .int a1), (1, .int a2)]) hx hb dX1_isReversed_42 hl (by decide) rfl (fun ls hl => ?_)
        refine lv_iload_n hx hb dX1_isReversed_44 rfl (lv_at hl 1 rfl) ?_
        refine lv_iload hx hb dX1_isReversed_45 (lv_at hl 0 rfl) ?_
        refine lv_icmp_eq (tgt := 54) hx hb dX1_isReversed_47 (by decide) (fun _ => ?_) (fun c15 => absurd c15 (by decide))
        refine lv_iconst (v := 0) hx hb dX1_isReversed_54 (by decide) ?_
        exact ret dX1_isReversed_55 rfl G ⟨Option.some.inj h, rfl⟩
      · have h := g_if h c14
        refine lv_iload_n hx hb dX1_isReversed_32 rfl (lv_at hl 1 rfl) ?_
        refine lv_iconst (v := 2) hx hb dX1_isReversed_33 (by decide) ?_
        refine lv_icmp_ne (tgt := 41) hx hb dX1_isReversed_34 (by decide) (fun c16 => ?_) (fun c16 => ?_)
        · have h := g_if h c16
          refine lv_iconst (v := 0) hx hb dX1_isReversed_41 (by decide) ?_
          refine lv_istore (lv' := [(4, .int 0), (3, .int 1), (2, .int v1), (0, .int a1), (1, .int a2)]) hx hb dX1_isReversed_42 hl (by decide) rfl (fun ls hl => ?_)
          refine lv_iload_n hx hb dX1_isReversed_44 rfl (lv_at hl 1 rfl) ?_
          refine lv_iload hx hb dX1_isReversed_45 (lv_at hl 0 rfl) ?_
          refine lv_icmp_eq (tgt := 54) hx hb dX1_isReversed_47 (by decide) (fun c18 => absurd c18 (by decide)) (fun _ => ?_)
          refine lv_iconst (v := 1) hx hb dX1_isReversed_50 (by decide) ?_
          refine lv_goto (tgt := 55) hx hb dX1_isReversed_51 (by decide) ?_
          exact ret dX1_isReversed_55 rfl G ⟨Option.some.inj h, rfl⟩
        · have h := g_it h c16
          refine lv_iconst (v := 1) hx hb dX1_isReversed_37 (by decide) ?_
          refine lv_goto (tgt := 42) hx hb dX1_isReversed_38 (by decide) ?_
          refine lv_istore (lv' := [(4, .int 1), (3, .int 1), (2, .int v1), (0, .int a1), (1, .int a2)]) hx hb dX1_isReversed_42 hl (by decide) rfl (fun ls hl => ?_)
          refine lv_iload_n hx hb dX1_isReversed_44 rfl (lv_at hl 1 rfl) ?_
          refine lv_iload hx hb dX1_isReversed_45 (lv_at hl 0 rfl) ?_
          refine lv_icmp_eq (tgt := 54) hx hb dX1_isReversed_47 (by decide) (fun _ => ?_) (fun c17 => absurd c17 (by decide))
          refine lv_iconst (v := 0) hx hb dX1_isReversed_54 (by decide) ?_
          exact ret dX1_isReversed_55 rfl G ⟨Option.some.inj h, rfl⟩

def fX1_reverse (σ : gM) (a1 : Int32) : Option (Int32) :=
  (if a1 = (-1) then
    some (-1)
  else
    some ((((a1 - a1 / 10 * 10) * 100) + (((a1 / 10) - (a1 / 10) / 10 * 10) * 10)) + (a1 / 100)))
set_option maxHeartbeats 4000000 in
set_option maxRecDepth 100000 in
theorem mX1_reverse (l : Launch) (X : gX) (σ : gM) (a1 : Int32) (r : Int32) (h : fX1_reverse σ a1 = some r) : Met l yX1_reverse (Cond.code yX1_reverse cX1_reverse 1 (some .int) :: gBig) ({ frames := 0, cells := 0, slots := 0, locals := 0 }) (gPc X σ [.int a1]) (gQi X σ r) 0 0 (xA X) := by
  refine g_meti (cc := cX1_reverse) (maxL := 1) (own := RX1) (by decide) rfl rfl (Nat.le_of_ble_eq_true rfl) ?_
  intro p ev s m args below meth c Q C G ret ls hl
  obtain ⟨⟨hx, hb, hml, hown, hts⟩, hK⟩ := id C
  have hl : lv_has ls 1 [(0, .int a1)] := hl
  unfold fX1_reverse at h
  refine lv_iload_n hx hb dX1_reverse_0 rfl (lv_at hl 0 rfl) ?_
  refine lv_iconst (v := (-1)) hx hb dX1_reverse_1 (by decide) ?_
  refine lv_icmp_ne (tgt := 7) hx hb dX1_reverse_2 (by decide) (fun c1 => ?_) (fun c1 => ?_)
  · have h := g_if h c1
    refine lv_iload_n hx hb dX1_reverse_7 rfl (lv_at hl 0 rfl) ?_
    refine lv_bipush (v := 10) hx hb dX1_reverse_8 (by decide) ?_
    refine lv_irem hx hb dX1_reverse_10 (by decide) ?_
    refine lv_bipush (v := 100) hx hb dX1_reverse_11 (by decide) ?_
    refine lv_imul hx hb dX1_reverse_13 ?_
    refine lv_iload_n hx hb dX1_reverse_14 rfl (lv_at hl 0 rfl) ?_
    refine lv_bipush (v := 10) hx hb dX1_reverse_15 (by decide) ?_
    refine lv_idiv hx hb dX1_reverse_17 (by decide) ?_
    refine lv_bipush (v := 10) hx hb dX1_reverse_18 (by decide) ?_
    refine lv_irem hx hb dX1_reverse_20 (by decide) ?_
    refine lv_bipush (v := 10) hx hb dX1_reverse_21 (by decide) ?_
    refine lv_imul hx hb dX1_reverse_23 ?_
    refine lv_iadd hx hb dX1_reverse_24 ?_
    refine lv_iload_n hx hb dX1_reverse_25 rfl (lv_at hl 0 rfl) ?_
    refine lv_bipush (v := 100) hx hb dX1_reverse_26 (by decide) ?_
    refine lv_idiv hx hb dX1_reverse_28 (by decide) ?_
    refine lv_iadd hx hb dX1_reverse_29 ?_
    exact ret dX1_reverse_30 rfl G ⟨Option.some.inj h, rfl⟩
  · have h := g_it h c1
    refine lv_iconst (v := (-1)) hx hb dX1_reverse_5 (by decide) ?_
    exact ret dX1_reverse_6 rfl G ⟨Option.some.inj h, rfl⟩

def fX1_profile (σ : gM) (t : Nat) (a1 : Int32) (a2 : Int32) : Option (Int32) :=
  ((fX1_origin σ a1 a2).bind fun v1 =>
  ((fX5_get σ (t + 1) v1).bind fun v2 =>
  ((fX1_isReversed σ a1 a2).bind fun v3 =>
  (if v3 = 0 then
    some v2
  else
    ((fX1_reverse σ v2).bind fun v5 =>
    some v5)))))
set_option maxHeartbeats 4000000 in
set_option maxRecDepth 100000 in
theorem mX1_profile (l : Launch) (X : gX) (σ : gM) (t : Nat) (a1 : Int32) (a2 : Int32) (r : Int32) (ok : gok1 X t) (h : fX1_profile σ t a1 a2 = some r) : Met l yX1_profile (Cond.code yX1_profile cX1_profile 4 (some .int) :: gBig) ({ frames := 2, cells := 0, slots := 0, locals := 45 }) (gPc X σ [.ref (xN X + t), .int a1, .int a2]) (gQi X σ r) 0 0 (xA X) := by
  refine g_meti (cc := cX1_profile) (maxL := 4) (own := RX1) (by decide) rfl rfl (Nat.le_of_ble_eq_true rfl) ?_
  intro p ev s m args below meth c Q C G ret ls hl
  obtain ⟨⟨hx, hb, hml, hown, hts⟩, hK⟩ := id C
  have hl : lv_has ls 4 [(0, .ref (xN X + t)), (1, .int a1), (2, .int a2)] := hl
  unfold fX1_profile at h
  refine lv_aload_n hx hb dX1_profile_0 rfl (lv_at hl 0 rfl) ?_
  refine gg1_0 C G ok.1 ok.2.1.1 u_fl_RX1_14 dX1_profile_1 ?_
  refine lv_iload_n hx hb dX1_profile_4 rfl (lv_at hl 1 rfl) ?_
  refine lv_iload_n hx hb dX1_profile_5 rfl (lv_at hl 2 rfl) ?_
  obtain ⟨v1, e_v1, h⟩ := g_bind h
  refine g_calli (g_runS (n := 2) (As := [.int a1, .int a2]) (rest := [.ref (xN X + (t + 1))]) C G (mX1_origin l X σ a1 a2 v1 e_v1) (g_goodS u_ml_RX1_31 u_st_yX1_origin u_in_RX1 u_co_yX1_origin) rfl rfl rfl (by decide +kernel) ⟨Nat.le_of_ble_eq_true rfl, Nat.le_of_ble_eq_true rfl⟩ rfl hl.1 rfl (Nat.le_of_ble_eq_true rfl) dX1_profile_6 ⟨Nat.zero_le _, Nat.zero_le _⟩) G (fun H locs G => ?_)
  obtain ⟨v2, e_v2, h⟩ := g_bind h
  refine g_calli (g_runV (n := 1) (As := [.int v1]) (rest := []) C G (mX5_get l X σ (t + 1) v1 v2 ok.2.2.1 e_v2) ok.2.2.1.1.2 (gE_5 ok.2.2.1.1.1) rfl (g_goodV u_ml_RX1_35 u_im_yX5_get u_se_yX5_get u_in_RX5 u_co_yX5_get) rfl rfl rfl (by decide +kernel) ⟨Nat.le_of_ble_eq_true rfl, Nat.le_of_ble_eq_true rfl⟩ rfl hl.1 rfl (Nat.le_of_ble_eq_true rfl) dX1_profile_9 ⟨Nat.zero_le _, Nat.zero_le _⟩) G (fun H locs G => ?_)
  refine lv_istore_n (lv' := [(3, .int v2), (0, .ref (xN X + t)), (1, .int a1), (2, .int a2)]) hx hb dX1_profile_12 rfl hl (by decide) rfl (fun ls hl => ?_)
  refine lv_iload_n hx hb dX1_profile_13 rfl (lv_at hl 2 rfl) ?_
  refine lv_iload_n hx hb dX1_profile_14 rfl (lv_at hl 3 rfl) ?_
  obtain ⟨v3, e_v3, h⟩ := g_bind h
  refine g_calli (g_runS (n := 2) (As := [.int a1, .int a2]) (rest := []) C G (mX1_isReversed l X σ a1 a2 v3 e_v3) (g_goodS u_ml_RX1_39 u_st_yX1_isReversed u_in_RX1 u_co_yX1_isReversed) rfl rfl rfl (by decide +kernel) ⟨Nat.le_of_ble_eq_true rfl, Nat.le_of_ble_eq_true rfl⟩ rfl hl.1 rfl (Nat.le_of_ble_eq_true rfl) dX1_profile_15 ⟨Nat.zero_le _, Nat.zero_le _⟩) G (fun H locs G => ?_)
  refine lv_if_eq (tgt := 28) hx hb dX1_profile_18 (by decide) (fun c4 => ?_) (fun c4 => ?_)
  · have h := g_it h c4
    refine lv_iload_n hx hb dX1_profile_28 rfl (lv_at hl 0 rfl) ?_
    exact ret dX1_profile_29 rfl G ⟨Option.some.inj h, rfl⟩
  · have h := g_if h c4
    refine lv_iload_n hx hb dX1_profile_21 rfl (lv_at hl 0 rfl) ?_
    obtain ⟨v5, e_v5, h⟩ := g_bind h
    refine g_calli (g_runS (n := 1) (As := [.int v2]) (rest := []) C G (mX1_reverse l X σ v2 v5 e_v5) (g_goodS u_ml_RX1_43 u_st_yX1_reverse u_in_RX1 u_co_yX1_reverse) rfl rfl rfl (by decide +kernel) ⟨Nat.le_of_ble_eq_true rfl, Nat.le_of_ble_eq_true rfl⟩ rfl hl.1 rfl (Nat.le_of_ble_eq_true rfl) dX1_profile_22 ⟨Nat.zero_le _, Nat.zero_le _⟩) G (fun H locs G => ?_)
    refine lv_goto (tgt := 29) hx hb dX1_profile_25 (by decide) ?_
    exact ret dX1_profile_29 rfl G ⟨Option.some.inj h, rfl⟩

def fX1_line (σ : gM) (t : Nat) (a1 : Int32) (a2 : Int32) : Option (Int32) :=
  (if (σ t 2) = 0 then
    (if a1 < 4 then
      ((fX1_origin σ a1 a2).bind fun v4 =>
      ((fX5_get σ (t + 3) v4).bind fun v5 =>
      some v5))
    else
      some 0)
  else
    ((fX1_origin σ a1 a2).bind fun v8 =>
    ((fX5_get σ (t + 3) v8).bind fun v9 =>
    some v9)))
set_option maxHeartbeats 4000000 in
set_option maxRecDepth 100000 in
theorem mX1_line (l : Launch) (X : gX) (σ : gM) (t : Nat) (a1 : Int32) (a2 : Int32) (r : Int32) (ok : gok1 X t) (h : fX1_line σ t a1 a2 = some r) : Met l yX1_line (Cond.code yX1_line cX1_line 4 (some .int) :: gBig) ({ frames := 2, cells := 0, slots := 0, locals := 43 }) (gPc X σ [.ref (xN X + t), .int a1, .int a2]) (gQi X σ r) 0 0 (xA X) := by
  refine g_meti (cc := cX1_line) (maxL := 4) (own := RX1) (by decide) rfl rfl (Nat.le_of_ble_eq_true rfl) ?_
  intro p ev s m args below meth c Q C G ret ls hl
  obtain ⟨⟨hx, hb, hml, hown, hts⟩, hK⟩ := id C
  have hl : lv_has ls 4 [(0, .ref (xN X + t)), (1, .int a1), (2, .int a2)] := hl
  unfold fX1_line at h
  refine lv_aload_n hx hb dX1_line_0 rfl (lv_at hl 0 rfl) ?_
  refine gg1_2 C G ok.1 u_fl_RX1_27 dX1_line_1 ?_
  refine lv_if_ne (tgt := 16) hx hb dX1_line_4 (by decide) (fun c1 => ?_) (fun c1 => ?_)
  · have h := g_if h c1
    refine lv_iconst (v := 0) hx hb dX1_line_16 (by decide) ?_
    refine lv_istore_n (lv' := [(3, .int 0), (0, .ref (xN X + t)), (1, .int a1), (2, .int a2)]) hx hb dX1_line_17 rfl hl (by decide) rfl (fun ls hl => ?_)
    refine lv_iload_n hx hb dX1_line_18 rfl (lv_at hl 0 rfl) ?_
    refine lv_if_eq (tgt := 26) hx hb dX1_line_19 (by decide) (fun _ => ?_) (fun c7 => absurd c7 (by decide))
    refine lv_aload_n hx hb dX1_line_26 rfl (lv_at hl 1 rfl) ?_
    refine gg1_1 C G ok.1 ok.2.1.2 u_fl_RX1_20 dX1_line_27 ?_
    refine lv_iload_n hx hb dX1_line_30 rfl (lv_at hl 2 rfl) ?_
    refine lv_iload_n hx hb dX1_line_31 rfl (lv_at hl 3 rfl) ?_
    obtain ⟨v8, e_v8, h⟩ := g_bind h
    refine g_calli (g_runS (n := 2) (As := [.int a1, .int a2]) (rest := [.ref (xN X + (t + 3))]) C G (mX1_origin l X σ a1 a2 v8 e_v8) (g_goodS u_ml_RX1_31 u_st_yX1_origin u_in_RX1 u_co_yX1_origin) rfl rfl rfl (by decide +kernel) ⟨Nat.le_of_ble_eq_true rfl, Nat.le_of_ble_eq_true rfl⟩ rfl hl.1 rfl (Nat.le_of_ble_eq_true rfl) dX1_line_32 ⟨Nat.zero_le _, Nat.zero_le _⟩) G (fun H locs G => ?_)
    obtain ⟨v9, e_v9, h⟩ := g_bind h
    refine g_calli (g_runV (n := 1) (As := [.int v8]) (rest := []) C G (mX5_get l X σ (t + 3) v8 v9 ok.2.2.2 e_v9) ok.2.2.2.1.2 (gE_5 ok.2.2.2.1.1) rfl (g_goodV u_ml_RX1_35 u_im_yX5_get u_se_yX5_get u_in_RX5 u_co_yX5_get) rfl rfl rfl (by decide +kernel) ⟨Nat.le_of_ble_eq_true rfl, Nat.le_of_ble_eq_true rfl⟩ rfl hl.1 rfl (Nat.le_of_ble_eq_true rfl) dX1_line_35 ⟨Nat.zero_le _, Nat.zero_le _⟩) G (fun H locs G => ?_)
    exact ret dX1_line_38 rfl G ⟨Option.some.inj h, rfl⟩
  · have h := g_it h c1
    refine lv_iload_n hx hb dX1_line_7 rfl (lv_at hl 1 rfl) ?_
    refine lv_iconst (v := 4) hx hb dX1_line_8 (by decide) ?_
    refine lv_icmp_lt (tgt := 16) hx hb dX1_line_9 (by decide) (fun c2 => ?_) (fun c2 => ?_)
    · have h := g_it h c2
      refine lv_iconst (v := 0) hx hb dX1_line_16 (by decide) ?_
      refine lv_istore_n (lv' := [(3, .int 0), (0, .ref (xN X + t)), (1, .int a1), (2, .int a2)]) hx hb dX1_line_17 rfl hl (by decide) rfl (fun ls hl => ?_)
      refine lv_iload_n hx hb dX1_line_18 rfl (lv_at hl 0 rfl) ?_
      refine lv_if_eq (tgt := 26) hx hb dX1_line_19 (by decide) (fun _ => ?_) (fun c3 => absurd c3 (by decide))
      refine lv_aload_n hx hb dX1_line_26 rfl (lv_at hl 1 rfl) ?_
      refine gg1_1 C G ok.1 ok.2.1.2 u_fl_RX1_20 dX1_line_27 ?_
      refine lv_iload_n hx hb dX1_line_30 rfl (lv_at hl 2 rfl) ?_
      refine lv_iload_n hx hb dX1_line_31 rfl (lv_at hl 3 rfl) ?_
      obtain ⟨v4, e_v4, h⟩ := g_bind h
      refine g_calli (g_runS (n := 2) (As := [.int a1, .int a2]) (rest := [.ref (xN X + (t + 3))]) C G (mX1_origin l X σ a1 a2 v4 e_v4) (g_goodS u_ml_RX1_31 u_st_yX1_origin u_in_RX1 u_co_yX1_origin) rfl rfl rfl (by decide +kernel) ⟨Nat.le_of_ble_eq_true rfl, Nat.le_of_ble_eq_true rfl⟩ rfl hl.1 rfl (Nat.le_of_ble_eq_true rfl) dX1_line_32 ⟨Nat.zero_le _, Nat.zero_le _⟩) G (fun H locs G => ?_)
      obtain ⟨v5, e_v5, h⟩ := g_bind h
      refine g_calli (g_runV (n := 1) (As := [.int v4]) (rest := []) C G (mX5_get l X σ (t + 3) v4 v5 ok.2.2.2 e_v5) ok.2.2.2.1.2 (gE_5 ok.2.2.2.1.1) rfl (g_goodV u_ml_RX1_35 u_im_yX5_get u_se_yX5_get u_in_RX5 u_co_yX5_get) rfl rfl rfl (by decide +kernel) ⟨Nat.le_of_ble_eq_true rfl, Nat.le_of_ble_eq_true rfl⟩ rfl hl.1 rfl (Nat.le_of_ble_eq_true rfl) dX1_line_35 ⟨Nat.zero_le _, Nat.zero_le _⟩) G (fun H locs G => ?_)
      exact ret dX1_line_38 rfl G ⟨Option.some.inj h, rfl⟩
    · have h := g_if h c2
      refine lv_iconst (v := 1) hx hb dX1_line_12 (by decide) ?_
      refine lv_goto (tgt := 17) hx hb dX1_line_13 (by decide) ?_
      refine lv_istore_n (lv' := [(3, .int 1), (0, .ref (xN X + t)), (1, .int a1), (2, .int a2)]) hx hb dX1_line_17 rfl hl (by decide) rfl (fun ls hl => ?_)
      refine lv_iload_n hx hb dX1_line_18 rfl (lv_at hl 0 rfl) ?_
      refine lv_if_eq (tgt := 26) hx hb dX1_line_19 (by decide) (fun c6 => absurd c6 (by decide)) (fun _ => ?_)
      refine lv_iconst (v := 0) hx hb dX1_line_22 (by decide) ?_
      refine lv_goto (tgt := 38) hx hb dX1_line_23 (by decide) ?_
      exact ret dX1_line_38 rfl G ⟨Option.some.inj h, rfl⟩

def fX6_append_35 (K27 : gM → Int32 → Option (gM)) (t : Nat) (o1 : Nat) : Nat → gM → Int32 → Int32 → Option (gM)
  | 0, _, _, _ => none
  | n + 1, σ, x2, x3 =>
    (if 4 ≤ x3 then
      (gl (x2 + 1) fun w8 =>
      K27 σ w8)
    else
      (gl ((((σ t 3) * 32) + (x2 * 4)) + x3) fun w9 =>
      ((fX1_profile σ o1 x2 x3).bind fun v10 =>
      ((fX5_set σ (t + 3) w9 v10).bind fun σ12 =>
      ((fX1_line σ12 o1 x2 x3).bind fun v13 =>
      ((fX5_set σ12 (t + 5) w9 v13).bind fun σ15 =>
      (gl (x3 + 1) fun w16 =>
      fX6_append_35 K27 t o1 n σ15 x2 w16)))))))

def fX6_append_27 (t : Nat) (o1 : Nat) : Nat → gM → Int32 → Option (gM)
  | 0, _, _ => none
  | n + 1, σ, x2 =>
    (if 8 ≤ x2 then
      (gl (gset σ t (upd (σ t) 3 ((σ t 3) + 1))) fun σ6 =>
      some σ6)
    else
      fX6_append_35 (fun σ2 y2 => fX6_append_27 t o1 n σ2 y2) t o1 gF σ x2 0)

def fX6_append (σ : gM) (t : Nat) (o1 : Nat) : Option (gM) :=
  (if (σ t 3) < 12 then
    ((fX1_kind σ o1).bind fun v2 =>
    ((fX5_set σ (t + 1) (σ t 3) v2).bind fun σ4 =>
    fX6_append_27 t o1 gF σ4 0))
  else
    some σ)
set_option maxHeartbeats 4000000 in
set_option maxRecDepth 100000 in
theorem mX6_append (l : Launch) (X : gX) (σ σ' : gM) (t : Nat) (o1 : Nat) (ok : gok6 X t) (ok1 : gok1 X o1) (h : fX6_append σ t o1 = some σ') : Met l yX6_append (Cond.code yX6_append cX6_append 5 none :: gBig) ({ frames := 3, cells := 0, slots := 0, locals := 68 }) (gPc X σ [.ref (xN X + t), .ref (xN X + o1)]) (gQv X σ') 0 0 (xA X) := by
  refine g_metv (cc := cX6_append) (maxL := 5) (own := RX6) (by decide) rfl rfl (Nat.le_of_ble_eq_true rfl) ?_
  intro p ev s m args below meth c Q C G ret ls hl
  obtain ⟨⟨hx, hb, hml, hown, hts⟩, hK⟩ := id C
  have hl : lv_has ls 5 [(0, .ref (xN X + t)), (1, .ref (xN X + o1))] := hl
  have L35 : ∀ (K27 : gM → Int32 → Option (gM)), (∀ (H : Heap) (locs : List Loc) (ls : Array Slot) (σ : gM) (x2 : Int32), gG X σ s H locs → lv_has ls 5 [(0, .ref (xN X + t)), (1, .ref (xN X + o1)), (2, .int x2)] → K27 σ x2 = some σ' → W p l ev ({ frames := 3, cells := 0, slots := 0, locals := 68 }) s m args below meth c H locs 0 0 Q (F0 m 27 ls [])) → ∀ (n : Nat) (H : Heap) (locs : List Loc) (ls : Array Slot) (σ : gM) (x2 : Int32) (x3 : Int32), gG X σ s H locs → lv_has ls 5 [(0, .ref (xN X + t)), (1, .ref (xN X + o1)), (2, .int x2), (3, .int x3)] → fX6_append_35 K27 t o1 n σ x2 x3 = some σ' → W p l ev ({ frames := 3, cells := 0, slots := 0, locals := 68 }) s m args below meth c H locs 0 0 Q (F0 m 35 ls []) := by
    intro K27 hK27 n
    induction n with
    | zero =>
      intro H locs ls σ x2 x3 G hl h
      rw [fX6_append_35] at h
      cases h
    | succ n ih =>
      intro H locs ls σ x2 x3 G hl h
      rw [fX6_append_35] at h
      refine lv_iload_n hx hb dX6_append_35 rfl (lv_at hl 3 rfl) ?_
      refine lv_iconst (v := 4) hx hb dX6_append_36 (by decide) ?_
      refine lv_icmp_ge (tgt := 91) hx hb dX6_append_37 (by decide) (fun c7 => ?_) (fun c7 => ?_)
      · have h := g_it h c7
        obtain ⟨w8, e_w8⟩ : ∃ y : Int32, y = x2 + 1 := ⟨_, rfl⟩
        have h := g_let2 e_w8 h
        refine lv_iinc (v := w8) (lv' := [(2, .int w8), (0, .ref (xN X + t)), (1, .ref (xN X + o1)), (3, .int x3)]) hx hb dX6_append_91 hl (k := 2) rfl (by rw [e_w8]; rfl) (by decide) rfl (fun ls hl => ?_)
        refine lv_goto (tgt := 27) hx hb dX6_append_94 (by decide) ?_
        exact hK27 _ _ _ σ w8 G (lv_sub hl [1, 2, 0] rfl) h
      · have h := g_if h c7
        refine lv_aload_n hx hb dX6_append_40 rfl (lv_at hl 0 rfl) ?_
        refine gg6_3 C G ok.1 u_fl_RX6_26 dX6_append_41 ?_
        refine lv_bipush (v := 32) hx hb dX6_append_44 (by decide) ?_
        refine lv_imul hx hb dX6_append_46 ?_
        refine lv_iload_n hx hb dX6_append_47 rfl (lv_at hl 2 rfl) ?_
        refine lv_iconst (v := 4) hx hb dX6_append_48 (by decide) ?_
        refine lv_imul hx hb dX6_append_49 ?_
        refine lv_iadd hx hb dX6_append_50 ?_
        refine lv_iload_n hx hb dX6_append_51 rfl (lv_at hl 3 rfl) ?_
        refine lv_iadd hx hb dX6_append_52 ?_
        refine lv_topi (fun w9 e_w9 => ?_)
        have h := g_let2 e_w9 h
        refine lv_istore (lv' := [(4, .int w9), (0, .ref (xN X + t)), (1, .ref (xN X + o1)), (2, .int x2), (3, .int x3)]) hx hb dX6_append_53 hl (by decide) rfl (fun ls hl => ?_)
        refine lv_aload_n hx hb dX6_append_55 rfl (lv_at hl 1 rfl) ?_
        refine gg6_1 C G ok.1 ok.2.1.2.1 u_fl_RX6_20 dX6_append_56 ?_
        refine lv_iload hx hb dX6_append_59 (lv_at hl 0 rfl) ?_
        refine lv_aload_n hx hb dX6_append_61 rfl (lv_at hl 2 rfl) ?_
        refine lv_iload_n hx hb dX6_append_62 rfl (lv_at hl 3 rfl) ?_
        refine lv_iload_n hx hb dX6_append_63 rfl (lv_at hl 4 rfl) ?_
        obtain ⟨v10, e_v10, h⟩ := g_bind h
        refine g_calli (g_runV (n := 2) (As := [.int x2, .int x3]) (rest := [.int w9, .ref (xN X + (t + 3))]) C G (mX1_profile l X σ o1 x2 x3 v10 ok1 e_v10) ok1.1.2 (gE_1 ok1.1.1) rfl (g_goodV u_ml_RX6_44 u_im_yX1_profile u_se_yX1_profile u_in_RX1 u_co_yX1_profile) rfl rfl rfl (by decide +kernel) ⟨Nat.le_of_ble_eq_true rfl, Nat.le_of_ble_eq_true rfl⟩ rfl hl.1 rfl (Nat.le_of_ble_eq_true rfl) dX6_append_64 ⟨Nat.zero_le _, Nat.zero_le _⟩) G (fun H locs G => ?_)
        obtain ⟨σ12, e_σ12, h⟩ := g_bind h
        refine g_callv (g_runV (n := 2) (As := [.int w9, .int v10]) (rest := []) C G (mX5_set l X σ σ12 (t + 3) w9 v10 ok.2.2.2.1 e_σ12) ok.2.2.2.1.1.2 (gE_5 ok.2.2.2.1.1.1) rfl (g_goodV u_ml_RX6_40 u_im_yX5_set u_se_yX5_set u_in_RX5 u_co_yX5_set) rfl rfl rfl (by decide +kernel) ⟨Nat.le_of_ble_eq_true rfl, Nat.le_of_ble_eq_true rfl⟩ rfl hl.1 rfl (Nat.le_of_ble_eq_true rfl) dX6_append_67 ⟨Nat.zero_le _, Nat.zero_le _⟩) G (fun H locs G => ?_)
        refine lv_aload_n hx hb dX6_append_70 rfl (lv_at hl 1 rfl) ?_
        refine gg6_2 C G ok.1 ok.2.1.2.2 u_fl_RX6_23 dX6_append_71 ?_
        refine lv_iload hx hb dX6_append_74 (lv_at hl 0 rfl) ?_
        refine lv_aload_n hx hb dX6_append_76 rfl (lv_at hl 2 rfl) ?_
        refine lv_iload_n hx hb dX6_append_77 rfl (lv_at hl 3 rfl) ?_
        refine lv_iload_n hx hb dX6_append_78 rfl (lv_at hl 4 rfl) ?_
        obtain ⟨v13, e_v13, h⟩ := g_bind h
        refine g_calli (g_runV (n := 2) (As := [.int x2, .int x3]) (rest := [.int w9, .ref (xN X + (t + 5))]) C G (mX1_line l X σ12 o1 x2 x3 v13 ok1 e_v13) ok1.1.2 (gE_1 ok1.1.1) rfl (g_goodV u_ml_RX6_48 u_im_yX1_line u_se_yX1_line u_in_RX1 u_co_yX1_line) rfl rfl rfl (by decide +kernel) ⟨Nat.le_of_ble_eq_true rfl, Nat.le_of_ble_eq_true rfl⟩ rfl hl.1 rfl (Nat.le_of_ble_eq_true rfl) dX6_append_79 ⟨Nat.zero_le _, Nat.zero_le _⟩) G (fun H locs G => ?_)
        obtain ⟨σ15, e_σ15, h⟩ := g_bind h
        refine g_callv (g_runV (n := 2) (As := [.int w9, .int v13]) (rest := []) C G (mX5_set l X σ12 σ15 (t + 5) w9 v13 ok.2.2.2.2 e_σ15) ok.2.2.2.2.1.2 (gE_5 ok.2.2.2.2.1.1) rfl (g_goodV u_ml_RX6_40 u_im_yX5_set u_se_yX5_set u_in_RX5 u_co_yX5_set) rfl rfl rfl (by decide +kernel) ⟨Nat.le_of_ble_eq_true rfl, Nat.le_of_ble_eq_true rfl⟩ rfl hl.1 rfl (Nat.le_of_ble_eq_true rfl) dX6_append_82 ⟨Nat.zero_le _, Nat.zero_le _⟩) G (fun H locs G => ?_)
        obtain ⟨w16, e_w16⟩ : ∃ y : Int32, y = x3 + 1 := ⟨_, rfl⟩
        have h := g_let2 e_w16 h
        refine lv_iinc (v := w16) (lv' := [(3, .int w16), (4, .int w9), (0, .ref (xN X + t)), (1, .ref (xN X + o1)), (2, .int x2)]) hx hb dX6_append_85 hl (k := 4) rfl (by rw [e_w16]; rfl) (by decide) rfl (fun ls hl => ?_)
        refine lv_goto (tgt := 35) hx hb dX6_append_88 (by decide) ?_
        exact ih _ _ _ σ15 x2 w16 G (lv_sub hl [2, 3, 4, 0] rfl) h
  have L27 : ∀ (n : Nat) (H : Heap) (locs : List Loc) (ls : Array Slot) (σ : gM) (x2 : Int32), gG X σ s H locs → lv_has ls 5 [(0, .ref (xN X + t)), (1, .ref (xN X + o1)), (2, .int x2)] → fX6_append_27 t o1 n σ x2 = some σ' → W p l ev ({ frames := 3, cells := 0, slots := 0, locals := 68 }) s m args below meth c H locs 0 0 Q (F0 m 27 ls []) := by
    intro n
    induction n with
    | zero =>
      intro H locs ls σ x2 G hl h
      rw [fX6_append_27] at h
      cases h
    | succ n ih =>
      intro H locs ls σ x2 G hl h
      rw [fX6_append_27] at h
      refine lv_iload_n hx hb dX6_append_27 rfl (lv_at hl 2 rfl) ?_
      refine lv_bipush (v := 8) hx hb dX6_append_28 (by decide) ?_
      refine lv_icmp_ge (tgt := 97) hx hb dX6_append_30 (by decide) (fun c5 => ?_) (fun c5 => ?_)
      · have h := g_it h c5
        refine lv_aload_n hx hb dX6_append_97 rfl (lv_at hl 0 rfl) ?_
        refine lv_dup hx hb dX6_append_98 rfl ?_
        refine gg6_3 C G ok.1 u_fl_RX6_26 dX6_append_99 ?_
        refine lv_iconst (v := 1) hx hb dX6_append_102 (by decide) ?_
        refine lv_iadd hx hb dX6_append_103 ?_
        obtain ⟨σ6, e_σ6, h⟩ := g_let h
        refine gp6_3 C G ok.1 u_fl_RX6_26 dX6_append_104 (fun H locs G => ?_)
        rw [e_σ6] at G
        exact ret dX6_append_107 G (Option.some.inj h)
      · have h := g_if h c5
        refine lv_iconst (v := 0) hx hb dX6_append_33 (by decide) ?_
        refine lv_istore_n (lv' := [(3, .int 0), (0, .ref (xN X + t)), (1, .ref (xN X + o1)), (2, .int x2)]) hx hb dX6_append_34 rfl hl (by decide) rfl (fun ls hl => ?_)
        exact L35 (fun σ2 y2 => fX6_append_27 t o1 n σ2 y2) (fun H locs ls σ2 y2 G hl h => ih H locs ls σ2 y2 G hl h) gF _ _ _ σ x2 0 G (lv_sub hl [1, 2, 3, 0] rfl) h
  unfold fX6_append at h
  refine lv_aload_n hx hb dX6_append_0 rfl (lv_at hl 0 rfl) ?_
  refine gg6_3 C G ok.1 u_fl_RX6_26 dX6_append_1 ?_
  refine lv_bipush (v := 12) hx hb dX6_append_4 (by decide) ?_
  refine lv_icmp_lt (tgt := 10) hx hb dX6_append_6 (by decide) (fun c1 => ?_) (fun c1 => ?_)
  · have h := g_it h c1
    refine lv_aload_n hx hb dX6_append_10 rfl (lv_at hl 0 rfl) ?_
    refine gg6_0 C G ok.1 ok.2.1.1 u_fl_RX6_14 dX6_append_11 ?_
    refine lv_aload_n hx hb dX6_append_14 rfl (lv_at hl 0 rfl) ?_
    refine gg6_3 C G ok.1 u_fl_RX6_26 dX6_append_15 ?_
    refine lv_aload_n hx hb dX6_append_18 rfl (lv_at hl 1 rfl) ?_
    obtain ⟨v2, e_v2, h⟩ := g_bind h
    refine g_calli (g_runV (n := 0) (As := []) (rest := [.int (σ t 3), .ref (xN X + (t + 1))]) C G (mX1_kind l X σ o1 v2 ok1 e_v2) ok1.1.2 (gE_1 ok1.1.1) rfl (g_goodV u_ml_RX6_34 u_im_yX1_kind u_se_yX1_kind u_in_RX1 u_co_yX1_kind) rfl rfl rfl (by decide +kernel) ⟨Nat.le_of_ble_eq_true rfl, Nat.le_of_ble_eq_true rfl⟩ rfl hl.1 rfl (Nat.le_of_ble_eq_true rfl) dX6_append_19 ⟨Nat.zero_le _, Nat.zero_le _⟩) G (fun H locs G => ?_)
    obtain ⟨σ4, e_σ4, h⟩ := g_bind h
    refine g_callv (g_runV (n := 2) (As := [.int (σ t 3), .int v2]) (rest := []) C G (mX5_set l X σ σ4 (t + 1) (σ t 3) v2 ok.2.2.1 e_σ4) ok.2.2.1.1.2 (gE_5 ok.2.2.1.1.1) rfl (g_goodV u_ml_RX6_40 u_im_yX5_set u_se_yX5_set u_in_RX5 u_co_yX5_set) rfl rfl rfl (by decide +kernel) ⟨Nat.le_of_ble_eq_true rfl, Nat.le_of_ble_eq_true rfl⟩ rfl hl.1 rfl (Nat.le_of_ble_eq_true rfl) dX6_append_22 ⟨Nat.zero_le _, Nat.zero_le _⟩) G (fun H locs G => ?_)
    refine lv_iconst (v := 0) hx hb dX6_append_25 (by decide) ?_
    refine lv_istore_n (lv' := [(2, .int 0), (0, .ref (xN X + t)), (1, .ref (xN X + o1))]) hx hb dX6_append_26 rfl hl (by decide) rfl (fun ls hl => ?_)
    exact L27  gF _ _ _ σ4 0 G (lv_sub hl [1, 2, 0] rfl) h
  · have h := g_if h c1
    exact ret dX6_append_9 G (Option.some.inj h)

def fX8_append (σ : gM) (t : Nat) (o1 : Nat) : Option (Int32 × gM) :=
  ((fX3_keep σ (t + 31) (t + 1)).bind fun σ2 =>
  ((fX6_append σ2 ((t + 1) + 1) o1).bind fun σ4 =>
  ((fX6_size σ4 ((t + 1) + 1)).bind fun v5 =>
  some ((v5 - 1), σ4))))
set_option maxHeartbeats 4000000 in
set_option maxRecDepth 100000 in
theorem mX8_append (l : Launch) (X : gX) (σ σ' : gM) (t : Nat) (o1 : Nat) (r : Int32) (ok : gok8 X t) (ok1 : gok1 X o1) (h : fX8_append σ t o1 = some (r, σ')) : Met l yX8_append (Cond.code yX8_append cX8_append 2 (some .int) :: gBig) ({ frames := 5, cells := 0, slots := 0, locals := 150 }) (gPc X σ [.ref (xN X + t), .ref (xN X + o1)]) (gQi X σ' r) 0 0 (xA X) := by
  refine g_meti (cc := cX8_append) (maxL := 2) (own := RX8) (by decide) rfl rfl (Nat.le_of_ble_eq_true rfl) ?_
  intro p ev s m args below meth c Q C G ret ls hl
  obtain ⟨⟨hx, hb, hml, hown, hts⟩, hK⟩ := id C
  have hl : lv_has ls 2 [(0, .ref (xN X + t)), (1, .ref (xN X + o1))] := hl
  unfold fX8_append at h
  refine lv_aload_n hx hb dX8_append_0 rfl (lv_at hl 0 rfl) ?_
  refine gg8_2 C G ok.1 ok.2.1.2.2.1 u_fl_RX8_22 dX8_append_1 ?_
  refine lv_aload_n hx hb dX8_append_4 rfl (lv_at hl 0 rfl) ?_
  refine gg8_0 C G ok.1 ok.2.1.1 u_fl_RX8_10 dX8_append_5 ?_
  obtain ⟨σ2, e_σ2, h⟩ := g_bind h
  refine g_callv (g_runV (n := 1) (As := [.ref (xN X + (t + 1))]) (rest := []) C G (mX3_keep l X σ σ2 (t + 31) (t + 1) ok.2.2.2.2.1 ok.2.2.1 e_σ2) ok.2.2.2.2.1.1.2 (gE_3 ok.2.2.2.2.1.1.1) rfl (g_goodV u_ml_RX8_55 u_im_yX3_keep u_se_yX3_keep u_in_RX3 u_co_yX3_keep) rfl rfl rfl (by decide +kernel) ⟨Nat.le_of_ble_eq_true rfl, Nat.le_of_ble_eq_true rfl⟩ rfl hl.1 rfl (Nat.le_of_ble_eq_true rfl) dX8_append_8 ⟨Nat.zero_le _, Nat.zero_le _⟩) G (fun H locs G => ?_)
  refine lv_aload_n hx hb dX8_append_11 rfl (lv_at hl 0 rfl) ?_
  refine gg8_0 C G ok.1 ok.2.1.1 u_fl_RX8_10 dX8_append_12 ?_
  refine gn0_0 C G ok.2.2.1.1 ok.2.2.1.2.1.1 (List.mem_of_getElem? (i := 1) rfl) dX8_append_15 ?_
  refine lv_aload_n hx hb dX8_append_18 rfl (lv_at hl 1 rfl) ?_
  obtain ⟨σ4, e_σ4, h⟩ := g_bind h
  refine g_callv (g_runV (n := 1) (As := [.ref (xN X + o1)]) (rest := []) C G (mX6_append l X σ2 σ4 ((t + 1) + 1) o1 ok.2.2.1.2.2.1 ok1 e_σ4) ok.2.2.1.2.2.1.1.2 (gE_6 ok.2.2.1.2.2.1.1.1) rfl (g_goodV u_ml_RX8_224 u_im_yX6_append u_se_yX6_append u_in_RX6 u_co_yX6_append) rfl rfl rfl (by decide +kernel) ⟨Nat.le_of_ble_eq_true rfl, Nat.le_of_ble_eq_true rfl⟩ rfl hl.1 rfl (Nat.le_of_ble_eq_true rfl) dX8_append_19 ⟨Nat.zero_le _, Nat.zero_le _⟩) G (fun H locs G => ?_)
  refine lv_aload_n hx hb dX8_append_22 rfl (lv_at hl 0 rfl) ?_
  refine gg8_0 C G ok.1 ok.2.1.1 u_fl_RX8_10 dX8_append_23 ?_
  refine gn0_0 C G ok.2.2.1.1 ok.2.2.1.2.1.1 (List.mem_of_getElem? (i := 1) rfl) dX8_append_26 ?_
  obtain ⟨v5, e_v5, h⟩ := g_bind h
  refine g_calli (g_runV (n := 0) (As := []) (rest := []) C G (mX6_size l X σ4 ((t + 1) + 1) v5 ok.2.2.1.2.2.1 e_v5) ok.2.2.1.2.2.1.1.2 (gE_6 ok.2.2.1.2.2.1.1.1) rfl (g_goodV u_ml_RX8_77 u_im_yX6_size u_se_yX6_size u_in_RX6 u_co_yX6_size) rfl rfl rfl (by decide +kernel) ⟨Nat.le_of_ble_eq_true rfl, Nat.le_of_ble_eq_true rfl⟩ rfl hl.1 rfl (Nat.le_of_ble_eq_true rfl) dX8_append_29 ⟨Nat.zero_le _, Nat.zero_le _⟩) G (fun H locs G => ?_)
  refine lv_iconst (v := 1) hx hb dX8_append_32 (by decide) ?_
  refine lv_isub hx hb dX8_append_33 ?_
  exact ret dX8_append_34 rfl G (Prod.mk.inj (Option.some.inj h))
end
section
def fX8_addScrap (σ : gM) (t : Nat) (a1 : Int32) (a2 : Int32) (a3 : Int32) (a4 : Int32) (a5 : Int32) : Option (Int32 × gM) :=
  ((fX8_isProfile σ a1).bind fun v1 =>
  (if v1 = 0 then
    some ((-1001), σ)
  else
    ((fX8_isProfile σ a2).bind fun v3 =>
    (if v3 = 0 then
      some ((-1001), σ)
    else
      ((fX8_isProfile σ a3).bind fun v5 =>
      (if v5 = 0 then
        some ((-1001), σ)
      else
        ((fX8_isProfile σ a4).bind fun v7 =>
        (if v7 = 0 then
          some ((-1001), σ)
        else
          ((fX8_isWithin σ a5 0 1).bind fun v9 =>
          (if v9 = 0 then
            some ((-1001), σ)
          else
            ((fX6_size σ ((t + 1) + 1)).bind fun v11 =>
            (if v11 < 12 then
              ((fX1_setEdge σ (t + 119) 0 a1 0).bind fun σ14 =>
              ((fX1_setEdge σ14 (t + 119) 1 a2 0).bind fun σ16 =>
              ((fX1_setEdge σ16 (t + 119) 2 a3 0).bind fun σ18 =>
              ((fX1_setEdge σ18 (t + 119) 3 a4 0).bind fun σ20 =>
              ((fX1_setKind σ20 (t + 119) a5).bind fun σ22 =>
              ((fX8_append σ22 t (t + 119)).bind fun pv23 => gl pv23.1 fun v23 => gl pv23.2 fun σ24 =>
              some (v23, σ24)))))))
            else
              some ((-1003), σ)))))))))))))
set_option maxHeartbeats 4000000 in
set_option maxRecDepth 100000 in
theorem mX8_addScrap (l : Launch) (X : gX) (σ σ' : gM) (t : Nat) (a1 : Int32) (a2 : Int32) (a3 : Int32) (a4 : Int32) (a5 : Int32) (r : Int32) (ok : gok8 X t) (h : fX8_addScrap σ t a1 a2 a3 a4 a5 = some (r, σ')) : Met l yX8_addScrap (Cond.code yX8_addScrap cX8_addScrap 6 (some .int) :: gBig) ({ frames := 6, cells := 0, slots := 0, locals := 171 }) (gPc X σ [.ref (xN X + t), .int a1, .int a2, .int a3, .int a4, .int a5]) (gQi X σ' r) 0 0 (xA X) := by
  refine g_meti (cc := cX8_addScrap) (maxL := 6) (own := RX8) (by decide) rfl rfl (Nat.le_of_ble_eq_true rfl) ?_
  intro p ev s m args below meth c Q C G ret ls hl
  obtain ⟨⟨hx, hb, hml, hown, hts⟩, hK⟩ := id C
  have hl : lv_has ls 6 [(0, .ref (xN X + t)), (1, .int a1), (2, .int a2), (3, .int a3), (4, .int a4), (5, .int a5)] := hl
  unfold fX8_addScrap at h
  refine lv_iload_n hx hb dX8_addScrap_0 rfl (lv_at hl 1 rfl) ?_
  obtain ⟨v1, e_v1, h⟩ := g_bind h
  refine g_calli (g_runS (n := 1) (As := [.int a1]) (rest := []) C G (mX8_isProfile l X σ a1 v1 e_v1) (g_goodS u_ml_RX8_69 u_st_yX8_isProfile u_in_RX8 u_co_yX8_isProfile) rfl rfl rfl (by decide +kernel) ⟨Nat.le_of_ble_eq_true rfl, Nat.le_of_ble_eq_true rfl⟩ rfl hl.1 rfl (Nat.le_of_ble_eq_true rfl) dX8_addScrap_1 ⟨Nat.zero_le _, Nat.zero_le _⟩) G (fun H locs G => ?_)
  refine lv_if_eq (tgt := 39) hx hb dX8_addScrap_4 (by decide) (fun c2 => ?_) (fun c2 => ?_)
  · have h := g_it h c2
    refine lv_sipush (v := (-1001)) hx hb dX8_addScrap_39 (by decide) ?_
    exact ret dX8_addScrap_42 rfl G (Prod.mk.inj (Option.some.inj h))
  · have h := g_if h c2
    refine lv_iload_n hx hb dX8_addScrap_7 rfl (lv_at hl 2 rfl) ?_
    obtain ⟨v3, e_v3, h⟩ := g_bind h
    refine g_calli (g_runS (n := 1) (As := [.int a2]) (rest := []) C G (mX8_isProfile l X σ a2 v3 e_v3) (g_goodS u_ml_RX8_69 u_st_yX8_isProfile u_in_RX8 u_co_yX8_isProfile) rfl rfl rfl (by decide +kernel) ⟨Nat.le_of_ble_eq_true rfl, Nat.le_of_ble_eq_true rfl⟩ rfl hl.1 rfl (Nat.le_of_ble_eq_true rfl) dX8_addScrap_8 ⟨Nat.zero_le _, Nat.zero_le _⟩) G (fun H locs G => ?_)
    refine lv_if_eq (tgt := 39) hx hb dX8_addScrap_11 (by decide) (fun c4 => ?_) (fun c4 => ?_)
    · have h := g_it h c4
      refine lv_sipush (v := (-1001)) hx hb dX8_addScrap_39 (by decide) ?_
      exact ret dX8_addScrap_42 rfl G (Prod.mk.inj (Option.some.inj h))
    · have h := g_if h c4
      refine lv_iload_n hx hb dX8_addScrap_14 rfl (lv_at hl 3 rfl) ?_
      obtain ⟨v5, e_v5, h⟩ := g_bind h
      refine g_calli (g_runS (n := 1) (As := [.int a3]) (rest := []) C G (mX8_isProfile l X σ a3 v5 e_v5) (g_goodS u_ml_RX8_69 u_st_yX8_isProfile u_in_RX8 u_co_yX8_isProfile) rfl rfl rfl (by decide +kernel) ⟨Nat.le_of_ble_eq_true rfl, Nat.le_of_ble_eq_true rfl⟩ rfl hl.1 rfl (Nat.le_of_ble_eq_true rfl) dX8_addScrap_15 ⟨Nat.zero_le _, Nat.zero_le _⟩) G (fun H locs G => ?_)
      refine lv_if_eq (tgt := 39) hx hb dX8_addScrap_18 (by decide) (fun c6 => ?_) (fun c6 => ?_)
      · have h := g_it h c6
        refine lv_sipush (v := (-1001)) hx hb dX8_addScrap_39 (by decide) ?_
        exact ret dX8_addScrap_42 rfl G (Prod.mk.inj (Option.some.inj h))
      · have h := g_if h c6
        refine lv_iload hx hb dX8_addScrap_21 (lv_at hl 4 rfl) ?_
        obtain ⟨v7, e_v7, h⟩ := g_bind h
        refine g_calli (g_runS (n := 1) (As := [.int a4]) (rest := []) C G (mX8_isProfile l X σ a4 v7 e_v7) (g_goodS u_ml_RX8_69 u_st_yX8_isProfile u_in_RX8 u_co_yX8_isProfile) rfl rfl rfl (by decide +kernel) ⟨Nat.le_of_ble_eq_true rfl, Nat.le_of_ble_eq_true rfl⟩ rfl hl.1 rfl (Nat.le_of_ble_eq_true rfl) dX8_addScrap_23 ⟨Nat.zero_le _, Nat.zero_le _⟩) G (fun H locs G => ?_)
        refine lv_if_eq (tgt := 39) hx hb dX8_addScrap_26 (by decide) (fun c8 => ?_) (fun c8 => ?_)
        · have h := g_it h c8
          refine lv_sipush (v := (-1001)) hx hb dX8_addScrap_39 (by decide) ?_
          exact ret dX8_addScrap_42 rfl G (Prod.mk.inj (Option.some.inj h))
        · have h := g_if h c8
          refine lv_iload hx hb dX8_addScrap_29 (lv_at hl 5 rfl) ?_
          refine lv_iconst (v := 0) hx hb dX8_addScrap_31 (by decide) ?_
          refine lv_iconst (v := 1) hx hb dX8_addScrap_32 (by decide) ?_
          obtain ⟨v9, e_v9, h⟩ := g_bind h
          refine g_calli (g_runS (n := 3) (As := [.int a5, .int 0, .int 1]) (rest := []) C G (mX8_isWithin l X σ a5 0 1 v9 e_v9) (g_goodS u_ml_RX8_47 u_st_yX8_isWithin u_in_RX8 u_co_yX8_isWithin) rfl rfl rfl (by decide +kernel) ⟨Nat.le_of_ble_eq_true rfl, Nat.le_of_ble_eq_true rfl⟩ rfl hl.1 rfl (Nat.le_of_ble_eq_true rfl) dX8_addScrap_33 ⟨Nat.zero_le _, Nat.zero_le _⟩) G (fun H locs G => ?_)
          refine lv_if_ne (tgt := 43) hx hb dX8_addScrap_36 (by decide) (fun c10 => ?_) (fun c10 => ?_)
          · have h := g_if h c10
            refine lv_aload_n hx hb dX8_addScrap_43 rfl (lv_at hl 0 rfl) ?_
            refine gg8_0 C G ok.1 ok.2.1.1 u_fl_RX8_10 dX8_addScrap_44 ?_
            refine gn0_0 C G ok.2.2.1.1 ok.2.2.1.2.1.1 (List.mem_of_getElem? (i := 1) rfl) dX8_addScrap_47 ?_
            obtain ⟨v11, e_v11, h⟩ := g_bind h
            refine g_calli (g_runV (n := 0) (As := []) (rest := []) C G (mX6_size l X σ ((t + 1) + 1) v11 ok.2.2.1.2.2.1 e_v11) ok.2.2.1.2.2.1.1.2 (gE_6 ok.2.2.1.2.2.1.1.1) rfl (g_goodV u_ml_RX8_77 u_im_yX6_size u_se_yX6_size u_in_RX6 u_co_yX6_size) rfl rfl rfl (by decide +kernel) ⟨Nat.le_of_ble_eq_true rfl, Nat.le_of_ble_eq_true rfl⟩ rfl hl.1 rfl (Nat.le_of_ble_eq_true rfl) dX8_addScrap_50 ⟨Nat.zero_le _, Nat.zero_le _⟩) G (fun H locs G => ?_)
            refine lv_bipush (v := 12) hx hb dX8_addScrap_53 (by decide) ?_
            refine lv_icmp_lt (tgt := 62) hx hb dX8_addScrap_55 (by decide) (fun c12 => ?_) (fun c12 => ?_)
            · have h := g_it h c12
              refine lv_aload_n hx hb dX8_addScrap_62 rfl (lv_at hl 0 rfl) ?_
              refine gg8_5 C G ok.1 ok.2.1.2.2.2.2.2 u_fl_RX8_43 dX8_addScrap_63 ?_
              refine lv_iconst (v := 0) hx hb dX8_addScrap_66 (by decide) ?_
              refine lv_iload_n hx hb dX8_addScrap_67 rfl (lv_at hl 1 rfl) ?_
              refine lv_iconst (v := 0) hx hb dX8_addScrap_68 (by decide) ?_
              obtain ⟨σ14, e_σ14, h⟩ := g_bind h
              refine g_callv (g_runV (n := 3) (As := [.int 0, .int a1, .int 0]) (rest := []) C G (mX1_setEdge l X σ σ14 (t + 119) 0 a1 0 ok.2.2.2.2.2.2.2 e_σ14) ok.2.2.2.2.2.2.2.1.2 (gE_1 ok.2.2.2.2.2.2.2.1.1) rfl (g_goodV u_ml_RX8_82 u_im_yX1_setEdge u_se_yX1_setEdge u_in_RX1 u_co_yX1_setEdge) rfl rfl rfl (by decide +kernel) ⟨Nat.le_of_ble_eq_true rfl, Nat.le_of_ble_eq_true rfl⟩ rfl hl.1 rfl (Nat.le_of_ble_eq_true rfl) dX8_addScrap_69 ⟨Nat.zero_le _, Nat.zero_le _⟩) G (fun H locs G => ?_)
              refine lv_aload_n hx hb dX8_addScrap_72 rfl (lv_at hl 0 rfl) ?_
              refine gg8_5 C G ok.1 ok.2.1.2.2.2.2.2 u_fl_RX8_43 dX8_addScrap_73 ?_
              refine lv_iconst (v := 1) hx hb dX8_addScrap_76 (by decide) ?_
              refine lv_iload_n hx hb dX8_addScrap_77 rfl (lv_at hl 2 rfl) ?_
              refine lv_iconst (v := 0) hx hb dX8_addScrap_78 (by decide) ?_
              obtain ⟨σ16, e_σ16, h⟩ := g_bind h
              refine g_callv (g_runV (n := 3) (As := [.int 1, .int a2, .int 0]) (rest := []) C G (mX1_setEdge l X σ14 σ16 (t + 119) 1 a2 0 ok.2.2.2.2.2.2.2 e_σ16) ok.2.2.2.2.2.2.2.1.2 (gE_1 ok.2.2.2.2.2.2.2.1.1) rfl (g_goodV u_ml_RX8_82 u_im_yX1_setEdge u_se_yX1_setEdge u_in_RX1 u_co_yX1_setEdge) rfl rfl rfl (by decide +kernel) ⟨Nat.le_of_ble_eq_true rfl, Nat.le_of_ble_eq_true rfl⟩ rfl hl.1 rfl (Nat.le_of_ble_eq_true rfl) dX8_addScrap_79 ⟨Nat.zero_le _, Nat.zero_le _⟩) G (fun H locs G => ?_)
              refine lv_aload_n hx hb dX8_addScrap_82 rfl (lv_at hl 0 rfl) ?_
              refine gg8_5 C G ok.1 ok.2.1.2.2.2.2.2 u_fl_RX8_43 dX8_addScrap_83 ?_
              refine lv_iconst (v := 2) hx hb dX8_addScrap_86 (by decide) ?_
              refine lv_iload_n hx hb dX8_addScrap_87 rfl (lv_at hl 3 rfl) ?_
              refine lv_iconst (v := 0) hx hb dX8_addScrap_88 (by decide) ?_
              obtain ⟨σ18, e_σ18, h⟩ := g_bind h
              refine g_callv (g_runV (n := 3) (As := [.int 2, .int a3, .int 0]) (rest := []) C G (mX1_setEdge l X σ16 σ18 (t + 119) 2 a3 0 ok.2.2.2.2.2.2.2 e_σ18) ok.2.2.2.2.2.2.2.1.2 (gE_1 ok.2.2.2.2.2.2.2.1.1) rfl (g_goodV u_ml_RX8_82 u_im_yX1_setEdge u_se_yX1_setEdge u_in_RX1 u_co_yX1_setEdge) rfl rfl rfl (by decide +kernel) ⟨Nat.le_of_ble_eq_true rfl, Nat.le_of_ble_eq_true rfl⟩ rfl hl.1 rfl (Nat.le_of_ble_eq_true rfl) dX8_addScrap_89 ⟨Nat.zero_le _, Nat.zero_le _⟩) G (fun H locs G => ?_)
              refine lv_aload_n hx hb dX8_addScrap_92 rfl (lv_at hl 0 rfl) ?_
              refine gg8_5 C G ok.1 ok.2.1.2.2.2.2.2 u_fl_RX8_43 dX8_addScrap_93 ?_
              refine lv_iconst (v := 3) hx hb dX8_addScrap_96 (by decide) ?_
              refine lv_iload hx hb dX8_addScrap_97 (lv_at hl 4 rfl) ?_
              refine lv_iconst (v := 0) hx hb dX8_addScrap_99 (by decide) ?_
              obtain ⟨σ20, e_σ20, h⟩ := g_bind h
              refine g_callv (g_runV (n := 3) (As := [.int 3, .int a4, .int 0]) (rest := []) C G (mX1_setEdge l X σ18 σ20 (t + 119) 3 a4 0 ok.2.2.2.2.2.2.2 e_σ20) ok.2.2.2.2.2.2.2.1.2 (gE_1 ok.2.2.2.2.2.2.2.1.1) rfl (g_goodV u_ml_RX8_82 u_im_yX1_setEdge u_se_yX1_setEdge u_in_RX1 u_co_yX1_setEdge) rfl rfl rfl (by decide +kernel) ⟨Nat.le_of_ble_eq_true rfl, Nat.le_of_ble_eq_true rfl⟩ rfl hl.1 rfl (Nat.le_of_ble_eq_true rfl) dX8_addScrap_100 ⟨Nat.zero_le _, Nat.zero_le _⟩) G (fun H locs G => ?_)
              refine lv_aload_n hx hb dX8_addScrap_103 rfl (lv_at hl 0 rfl) ?_
              refine gg8_5 C G ok.1 ok.2.1.2.2.2.2.2 u_fl_RX8_43 dX8_addScrap_104 ?_
              refine lv_iload hx hb dX8_addScrap_107 (lv_at hl 5 rfl) ?_
              obtain ⟨σ22, e_σ22, h⟩ := g_bind h
              refine g_callv (g_runV (n := 1) (As := [.int a5]) (rest := []) C G (mX1_setKind l X σ20 σ22 (t + 119) a5 ok.2.2.2.2.2.2.2 e_σ22) ok.2.2.2.2.2.2.2.1.2 (gE_1 ok.2.2.2.2.2.2.2.1.1) rfl (g_goodV u_ml_RX8_86 u_im_yX1_setKind u_se_yX1_setKind u_in_RX1 u_co_yX1_setKind) rfl rfl rfl (by decide +kernel) ⟨Nat.le_of_ble_eq_true rfl, Nat.le_of_ble_eq_true rfl⟩ rfl hl.1 rfl (Nat.le_of_ble_eq_true rfl) dX8_addScrap_109 ⟨Nat.zero_le _, Nat.zero_le _⟩) G (fun H locs G => ?_)
              refine lv_aload_n hx hb dX8_addScrap_112 rfl (lv_at hl 0 rfl) ?_
              refine lv_aload_n hx hb dX8_addScrap_113 rfl (lv_at hl 0 rfl) ?_
              refine gg8_5 C G ok.1 ok.2.1.2.2.2.2.2 u_fl_RX8_43 dX8_addScrap_114 ?_
              obtain ⟨⟨v23, σ24⟩, e_v23, h⟩ := g_bind h
              have h := g_let2 (v := v23) rfl h
              have h := g_let2 (v := σ24) rfl h
              refine g_calli (g_runV (n := 1) (As := [.ref (xN X + (t + 119))]) (rest := []) C G (mX8_append l X σ22 σ24 t (t + 119) v23 ok ok.2.2.2.2.2.2.2 e_v23) ok.1.2 (gE_8 ok.1.1) rfl (g_goodV u_ml_RX8_90 u_im_yX8_append u_se_yX8_append u_in_RX8 u_co_yX8_append) rfl rfl rfl (by decide +kernel) ⟨Nat.le_of_ble_eq_true rfl, Nat.le_of_ble_eq_true rfl⟩ rfl hl.1 rfl (Nat.le_of_ble_eq_true rfl) dX8_addScrap_117 ⟨Nat.zero_le _, Nat.zero_le _⟩) G (fun H locs G => ?_)
              exact ret dX8_addScrap_120 rfl G (Prod.mk.inj (Option.some.inj h))
            · have h := g_if h c12
              refine lv_sipush (v := (-1003)) hx hb dX8_addScrap_58 (by decide) ?_
              exact ret dX8_addScrap_61 rfl G (Prod.mk.inj (Option.some.inj h))
          · have h := g_it h c10
            refine lv_sipush (v := (-1001)) hx hb dX8_addScrap_39 (by decide) ?_
            exact ret dX8_addScrap_42 rfl G (Prod.mk.inj (Option.some.inj h))

def fX7_next (σ : gM) (t : Nat) : Option (Int32) :=
  (if (σ t 2) ≤ (σ t 3) then
    some (-1)
  else
    ((fX5_get σ (t + 1) (σ t 3)).bind fun v2 =>
    some v2))
set_option maxHeartbeats 4000000 in
set_option maxRecDepth 100000 in
theorem mX7_next (l : Launch) (X : gX) (σ : gM) (t : Nat) (r : Int32) (ok : gok7 X t) (h : fX7_next σ t = some r) : Met l yX7_next (Cond.code yX7_next cX7_next 1 (some .int) :: gBig) ({ frames := 1, cells := 0, slots := 0, locals := 21 }) (gPc X σ [.ref (xN X + t)]) (gQi X σ r) 0 0 (xA X) := by
  refine g_meti (cc := cX7_next) (maxL := 1) (own := RX7) (by decide) rfl rfl (Nat.le_of_ble_eq_true rfl) ?_
  intro p ev s m args below meth c Q C G ret ls hl
  obtain ⟨⟨hx, hb, hml, hown, hts⟩, hK⟩ := id C
  have hl : lv_has ls 1 [(0, .ref (xN X + t))] := hl
  unfold fX7_next at h
  refine lv_aload_n hx hb dX7_next_0 rfl (lv_at hl 0 rfl) ?_
  refine gg7_3 C G ok.1 u_fl_RX7_31 dX7_next_1 ?_
  refine lv_aload_n hx hb dX7_next_4 rfl (lv_at hl 0 rfl) ?_
  refine gg7_2 C G ok.1 u_fl_RX7_27 dX7_next_5 ?_
  refine lv_icmp_ge (tgt := 25) hx hb dX7_next_8 (by decide) (fun c1 => ?_) (fun c1 => ?_)
  · have h := g_it h c1
    refine lv_iconst (v := (-1)) hx hb dX7_next_25 (by decide) ?_
    exact ret dX7_next_26 rfl G ⟨Option.some.inj h, rfl⟩
  · have h := g_if h c1
    refine lv_aload_n hx hb dX7_next_11 rfl (lv_at hl 0 rfl) ?_
    refine gg7_0 C G ok.1 ok.2.1.1 u_fl_RX7_14 dX7_next_12 ?_
    refine lv_aload_n hx hb dX7_next_15 rfl (lv_at hl 0 rfl) ?_
    refine gg7_3 C G ok.1 u_fl_RX7_31 dX7_next_16 ?_
    obtain ⟨v2, e_v2, h⟩ := g_bind h
    refine g_calli (g_runV (n := 1) (As := [.int (σ t 3)]) (rest := []) C G (mX5_get l X σ (t + 1) (σ t 3) v2 ok.2.2.1 e_v2) ok.2.2.1.1.2 (gE_5 ok.2.2.1.1.1) rfl (g_goodV u_ml_RX7_64 u_im_yX5_get u_se_yX5_get u_in_RX5 u_co_yX5_get) rfl rfl rfl (by decide +kernel) ⟨Nat.le_of_ble_eq_true rfl, Nat.le_of_ble_eq_true rfl⟩ rfl hl.1 rfl (Nat.le_of_ble_eq_true rfl) dX7_next_19 ⟨Nat.zero_le _, Nat.zero_le _⟩) G (fun H locs G => ?_)
    refine lv_goto (tgt := 26) hx hb dX7_next_22 (by decide) ?_
    exact ret dX7_next_26 rfl G ⟨Option.some.inj h, rfl⟩

def fX7_takeSign (σ : gM) (t : Nat) (a1 : Int32) : Option (gM) :=
  (if (σ t 4) = 0 then
    (gl (gset σ t (upd (σ t) 4 0)) fun σ2 =>
    (if (σ2 t 4) = 0 then
      some σ2
    else
      (gl (gset σ2 t (upd (σ2 t) 3 ((σ2 t 3) + 1))) fun σ4 =>
      some σ4)))
  else
    ((fX7_next σ t).bind fun v5 =>
    (if v5 = a1 then
      (gl (gset σ t (upd (σ t) 4 1)) fun σ7 =>
      (if (σ7 t 4) = 0 then
        some σ7
      else
        (gl (gset σ7 t (upd (σ7 t) 3 ((σ7 t 3) + 1))) fun σ9 =>
        some σ9)))
    else
      (gl (gset σ t (upd (σ t) 4 0)) fun σ10 =>
      (if (σ10 t 4) = 0 then
        some σ10
      else
        (gl (gset σ10 t (upd (σ10 t) 3 ((σ10 t 3) + 1))) fun σ12 =>
        some σ12))))))
set_option maxHeartbeats 4000000 in
set_option maxRecDepth 100000 in
theorem mX7_takeSign (l : Launch) (X : gX) (σ σ' : gM) (t : Nat) (a1 : Int32) (ok : gok7 X t) (h : fX7_takeSign σ t a1 = some σ') : Met l yX7_takeSign (Cond.code yX7_takeSign cX7_takeSign 2 none :: gBig) ({ frames := 2, cells := 0, slots := 0, locals := 41 }) (gPc X σ [.ref (xN X + t), .int a1]) (gQv X σ') 0 0 (xA X) := by
  refine g_metv (cc := cX7_takeSign) (maxL := 2) (own := RX7) (by decide) rfl rfl (Nat.le_of_ble_eq_true rfl) ?_
  intro p ev s m args below meth c Q C G ret ls hl
  obtain ⟨⟨hx, hb, hml, hown, hts⟩, hK⟩ := id C
  have hl : lv_has ls 2 [(0, .ref (xN X + t)), (1, .int a1)] := hl
  unfold fX7_takeSign at h
  refine lv_aload_n hx hb dX7_takeSign_0 rfl (lv_at hl 0 rfl) ?_
  refine lv_aload_n hx hb dX7_takeSign_1 rfl (lv_at hl 0 rfl) ?_
  refine gg7_4 C G ok.1 u_fl_RX7_34 dX7_takeSign_2 ?_
  refine lv_if_eq (tgt := 20) hx hb dX7_takeSign_5 (by decide) (fun c1 => ?_) (fun c1 => ?_)
  · have h := g_it h c1
    refine lv_iconst (v := 0) hx hb dX7_takeSign_20 (by decide) ?_
    obtain ⟨σ2, e_σ2, h⟩ := g_let h
    refine gp7_4 C G ok.1 u_fl_RX7_34 (by decide) dX7_takeSign_21 (fun H locs G => ?_)
    rw [e_σ2] at G
    refine lv_aload_n hx hb dX7_takeSign_24 rfl (lv_at hl 0 rfl) ?_
    refine gg7_4 C G ok.1 u_fl_RX7_34 dX7_takeSign_25 ?_
    refine lv_if_eq (tgt := 41) hx hb dX7_takeSign_28 (by decide) (fun c3 => ?_) (fun c3 => ?_)
    · have h := g_it h c3
      exact ret dX7_takeSign_41 G (Option.some.inj h)
    · have h := g_if h c3
      refine lv_aload_n hx hb dX7_takeSign_31 rfl (lv_at hl 0 rfl) ?_
      refine lv_dup hx hb dX7_takeSign_32 rfl ?_
      refine gg7_3 C G ok.1 u_fl_RX7_31 dX7_takeSign_33 ?_
      refine lv_iconst (v := 1) hx hb dX7_takeSign_36 (by decide) ?_
      refine lv_iadd hx hb dX7_takeSign_37 ?_
      obtain ⟨σ4, e_σ4, h⟩ := g_let h
      refine gp7_3 C G ok.1 u_fl_RX7_31 dX7_takeSign_38 (fun H locs G => ?_)
      rw [e_σ4] at G
      exact ret dX7_takeSign_41 G (Option.some.inj h)
  · have h := g_if h c1
    refine lv_aload_n hx hb dX7_takeSign_8 rfl (lv_at hl 0 rfl) ?_
    obtain ⟨v5, e_v5, h⟩ := g_bind h
    refine g_calli (g_runV (n := 0) (As := []) (rest := [.ref (xN X + t)]) C G (mX7_next l X σ t v5 ok e_v5) ok.1.2 (gE_7 ok.1.1) rfl (g_goodV u_ml_RX7_56 u_im_yX7_next u_se_yX7_next u_in_RX7 u_co_yX7_next) rfl rfl rfl (by decide +kernel) ⟨Nat.le_of_ble_eq_true rfl, Nat.le_of_ble_eq_true rfl⟩ rfl hl.1 rfl (Nat.le_of_ble_eq_true rfl) dX7_takeSign_9 ⟨Nat.zero_le _, Nat.zero_le _⟩) G (fun H locs G => ?_)
    refine lv_iload_n hx hb dX7_takeSign_12 rfl (lv_at hl 1 rfl) ?_
    refine lv_icmp_ne (tgt := 20) hx hb dX7_takeSign_13 (by decide) (fun c6 => ?_) (fun c6 => ?_)
    · have h := g_if h c6
      refine lv_iconst (v := 0) hx hb dX7_takeSign_20 (by decide) ?_
      obtain ⟨σ10, e_σ10, h⟩ := g_let h
      refine gp7_4 C G ok.1 u_fl_RX7_34 (by decide) dX7_takeSign_21 (fun H locs G => ?_)
      rw [e_σ10] at G
      refine lv_aload_n hx hb dX7_takeSign_24 rfl (lv_at hl 0 rfl) ?_
      refine gg7_4 C G ok.1 u_fl_RX7_34 dX7_takeSign_25 ?_
      refine lv_if_eq (tgt := 41) hx hb dX7_takeSign_28 (by decide) (fun c11 => ?_) (fun c11 => ?_)
      · have h := g_it h c11
        exact ret dX7_takeSign_41 G (Option.some.inj h)
      · have h := g_if h c11
        refine lv_aload_n hx hb dX7_takeSign_31 rfl (lv_at hl 0 rfl) ?_
        refine lv_dup hx hb dX7_takeSign_32 rfl ?_
        refine gg7_3 C G ok.1 u_fl_RX7_31 dX7_takeSign_33 ?_
        refine lv_iconst (v := 1) hx hb dX7_takeSign_36 (by decide) ?_
        refine lv_iadd hx hb dX7_takeSign_37 ?_
        obtain ⟨σ12, e_σ12, h⟩ := g_let h
        refine gp7_3 C G ok.1 u_fl_RX7_31 dX7_takeSign_38 (fun H locs G => ?_)
        rw [e_σ12] at G
        exact ret dX7_takeSign_41 G (Option.some.inj h)
    · have h := g_it h c6
      refine lv_iconst (v := 1) hx hb dX7_takeSign_16 (by decide) ?_
      refine lv_goto (tgt := 21) hx hb dX7_takeSign_17 (by decide) ?_
      obtain ⟨σ7, e_σ7, h⟩ := g_let h
      refine gp7_4 C G ok.1 u_fl_RX7_34 (by decide) dX7_takeSign_21 (fun H locs G => ?_)
      rw [e_σ7] at G
      refine lv_aload_n hx hb dX7_takeSign_24 rfl (lv_at hl 0 rfl) ?_
      refine gg7_4 C G ok.1 u_fl_RX7_34 dX7_takeSign_25 ?_
      refine lv_if_eq (tgt := 41) hx hb dX7_takeSign_28 (by decide) (fun c8 => ?_) (fun c8 => ?_)
      · have h := g_it h c8
        exact ret dX7_takeSign_41 G (Option.some.inj h)
      · have h := g_if h c8
        refine lv_aload_n hx hb dX7_takeSign_31 rfl (lv_at hl 0 rfl) ?_
        refine lv_dup hx hb dX7_takeSign_32 rfl ?_
        refine gg7_3 C G ok.1 u_fl_RX7_31 dX7_takeSign_33 ?_
        refine lv_iconst (v := 1) hx hb dX7_takeSign_36 (by decide) ?_
        refine lv_iadd hx hb dX7_takeSign_37 ?_
        obtain ⟨σ9, e_σ9, h⟩ := g_let h
        refine gp7_3 C G ok.1 u_fl_RX7_31 dX7_takeSign_38 (fun H locs G => ?_)
        rw [e_σ9] at G
        exact ret dX7_takeSign_41 G (Option.some.inj h)

def fX7_takeDigit (σ : gM) (t : Nat) (a1 : Int32) : Option (Int32 × gM) :=
  ((fX7_next σ t).bind fun v1 =>
  (gl (v1 - 48) fun w2 =>
  (if (σ t 4) = 0 then
    (gl (gset σ t (upd (σ t) 4 0)) fun σ4 =>
    (if (σ4 t 4) = 0 then
      some (0, σ4)
    else
      (gl (gset σ4 t (upd (σ4 t) 3 ((σ4 t 3) + 1))) fun σ6 =>
      some (w2, σ6))))
  else
    (if w2 < 0 then
      (gl (gset σ t (upd (σ t) 4 0)) fun σ8 =>
      (if (σ8 t 4) = 0 then
        some (0, σ8)
      else
        (gl (gset σ8 t (upd (σ8 t) 3 ((σ8 t 3) + 1))) fun σ10 =>
        some (w2, σ10))))
    else
      (if a1 < w2 then
        (gl (gset σ t (upd (σ t) 4 0)) fun σ12 =>
        (if (σ12 t 4) = 0 then
          some (0, σ12)
        else
          (gl (gset σ12 t (upd (σ12 t) 3 ((σ12 t 3) + 1))) fun σ14 =>
          some (w2, σ14))))
      else
        (gl (gset σ t (upd (σ t) 4 1)) fun σ15 =>
        (if (σ15 t 4) = 0 then
          some (0, σ15)
        else
          (gl (gset σ15 t (upd (σ15 t) 3 ((σ15 t 3) + 1))) fun σ17 =>
          some (w2, σ17)))))))))
set_option maxHeartbeats 4000000 in
set_option maxRecDepth 100000 in
theorem mX7_takeDigit (l : Launch) (X : gX) (σ σ' : gM) (t : Nat) (a1 : Int32) (r : Int32) (ok : gok7 X t) (h : fX7_takeDigit σ t a1 = some (r, σ')) : Met l yX7_takeDigit (Cond.code yX7_takeDigit cX7_takeDigit 3 (some .int) :: gBig) ({ frames := 2, cells := 0, slots := 0, locals := 41 }) (gPc X σ [.ref (xN X + t), .int a1]) (gQi X σ' r) 0 0 (xA X) := by
  refine g_meti (cc := cX7_takeDigit) (maxL := 3) (own := RX7) (by decide) rfl rfl (Nat.le_of_ble_eq_true rfl) ?_
  intro p ev s m args below meth c Q C G ret ls hl
  obtain ⟨⟨hx, hb, hml, hown, hts⟩, hK⟩ := id C
  have hl : lv_has ls 3 [(0, .ref (xN X + t)), (1, .int a1)] := hl
  unfold fX7_takeDigit at h
  refine lv_aload_n hx hb dX7_takeDigit_0 rfl (lv_at hl 0 rfl) ?_
  obtain ⟨v1, e_v1, h⟩ := g_bind h
  refine g_calli (g_runV (n := 0) (As := []) (rest := []) C G (mX7_next l X σ t v1 ok e_v1) ok.1.2 (gE_7 ok.1.1) rfl (g_goodV u_ml_RX7_56 u_im_yX7_next u_se_yX7_next u_in_RX7 u_co_yX7_next) rfl rfl rfl (by decide +kernel) ⟨Nat.le_of_ble_eq_true rfl, Nat.le_of_ble_eq_true rfl⟩ rfl hl.1 rfl (Nat.le_of_ble_eq_true rfl) dX7_takeDigit_1 ⟨Nat.zero_le _, Nat.zero_le _⟩) G (fun H locs G => ?_)
  refine lv_bipush (v := 48) hx hb dX7_takeDigit_4 (by decide) ?_
  refine lv_isub hx hb dX7_takeDigit_6 ?_
  refine lv_topi (fun w2 e_w2 => ?_)
  have h := g_let2 e_w2 h
  refine lv_istore_n (lv' := [(2, .int w2), (0, .ref (xN X + t)), (1, .int a1)]) hx hb dX7_takeDigit_7 rfl hl (by decide) rfl (fun ls hl => ?_)
  refine lv_aload_n hx hb dX7_takeDigit_8 rfl (lv_at hl 1 rfl) ?_
  refine lv_aload_n hx hb dX7_takeDigit_9 rfl (lv_at hl 1 rfl) ?_
  refine gg7_4 C G ok.1 u_fl_RX7_34 dX7_takeDigit_10 ?_
  refine lv_if_eq (tgt := 29) hx hb dX7_takeDigit_13 (by decide) (fun c3 => ?_) (fun c3 => ?_)
  · have h := g_it h c3
    refine lv_iconst (v := 0) hx hb dX7_takeDigit_29 (by decide) ?_
    obtain ⟨σ4, e_σ4, h⟩ := g_let h
    refine gp7_4 C G ok.1 u_fl_RX7_34 (by decide) dX7_takeDigit_30 (fun H locs G => ?_)
    rw [e_σ4] at G
    refine lv_aload_n hx hb dX7_takeDigit_33 rfl (lv_at hl 1 rfl) ?_
    refine gg7_4 C G ok.1 u_fl_RX7_34 dX7_takeDigit_34 ?_
    refine lv_if_ne (tgt := 42) hx hb dX7_takeDigit_37 (by decide) (fun c5 => ?_) (fun c5 => ?_)
    · have h := g_if h c5
      refine lv_aload_n hx hb dX7_takeDigit_42 rfl (lv_at hl 1 rfl) ?_
      refine lv_dup hx hb dX7_takeDigit_43 rfl ?_
      refine gg7_3 C G ok.1 u_fl_RX7_31 dX7_takeDigit_44 ?_
      refine lv_iconst (v := 1) hx hb dX7_takeDigit_47 (by decide) ?_
      refine lv_iadd hx hb dX7_takeDigit_48 ?_
      obtain ⟨σ6, e_σ6, h⟩ := g_let h
      refine gp7_3 C G ok.1 u_fl_RX7_31 dX7_takeDigit_49 (fun H locs G => ?_)
      rw [e_σ6] at G
      refine lv_iload_n hx hb dX7_takeDigit_52 rfl (lv_at hl 0 rfl) ?_
      exact ret dX7_takeDigit_53 rfl G (Prod.mk.inj (Option.some.inj h))
    · have h := g_it h c5
      refine lv_iconst (v := 0) hx hb dX7_takeDigit_40 (by decide) ?_
      exact ret dX7_takeDigit_41 rfl G (Prod.mk.inj (Option.some.inj h))
  · have h := g_if h c3
    refine lv_iload_n hx hb dX7_takeDigit_16 rfl (lv_at hl 0 rfl) ?_
    refine lv_if_lt (tgt := 29) hx hb dX7_takeDigit_17 (by decide) (fun c7 => ?_) (fun c7 => ?_)
    · have h := g_it h c7
      refine lv_iconst (v := 0) hx hb dX7_takeDigit_29 (by decide) ?_
      obtain ⟨σ8, e_σ8, h⟩ := g_let h
      refine gp7_4 C G ok.1 u_fl_RX7_34 (by decide) dX7_takeDigit_30 (fun H locs G => ?_)
      rw [e_σ8] at G
      refine lv_aload_n hx hb dX7_takeDigit_33 rfl (lv_at hl 1 rfl) ?_
      refine gg7_4 C G ok.1 u_fl_RX7_34 dX7_takeDigit_34 ?_
      refine lv_if_ne (tgt := 42) hx hb dX7_takeDigit_37 (by decide) (fun c9 => ?_) (fun c9 => ?_)
      · have h := g_if h c9
        refine lv_aload_n hx hb dX7_takeDigit_42 rfl (lv_at hl 1 rfl) ?_
        refine lv_dup hx hb dX7_takeDigit_43 rfl ?_
        refine gg7_3 C G ok.1 u_fl_RX7_31 dX7_takeDigit_44 ?_
        refine lv_iconst (v := 1) hx hb dX7_takeDigit_47 (by decide) ?_
        refine lv_iadd hx hb dX7_takeDigit_48 ?_
        obtain ⟨σ10, e_σ10, h⟩ := g_let h
        refine gp7_3 C G ok.1 u_fl_RX7_31 dX7_takeDigit_49 (fun H locs G => ?_)
        rw [e_σ10] at G
        refine lv_iload_n hx hb dX7_takeDigit_52 rfl (lv_at hl 0 rfl) ?_
        exact ret dX7_takeDigit_53 rfl G (Prod.mk.inj (Option.some.inj h))
      · have h := g_it h c9
        refine lv_iconst (v := 0) hx hb dX7_takeDigit_40 (by decide) ?_
        exact ret dX7_takeDigit_41 rfl G (Prod.mk.inj (Option.some.inj h))
    · have h := g_if h c7
      refine lv_iload_n hx hb dX7_takeDigit_20 rfl (lv_at hl 0 rfl) ?_
      refine lv_iload_n hx hb dX7_takeDigit_21 rfl (lv_at hl 2 rfl) ?_
      refine lv_icmp_gt (tgt := 29) hx hb dX7_takeDigit_22 (by decide) (fun c11 => ?_) (fun c11 => ?_)
      · have h := g_it h c11
        refine lv_iconst (v := 0) hx hb dX7_takeDigit_29 (by decide) ?_
        obtain ⟨σ12, e_σ12, h⟩ := g_let h
        refine gp7_4 C G ok.1 u_fl_RX7_34 (by decide) dX7_takeDigit_30 (fun H locs G => ?_)
        rw [e_σ12] at G
        refine lv_aload_n hx hb dX7_takeDigit_33 rfl (lv_at hl 1 rfl) ?_
        refine gg7_4 C G ok.1 u_fl_RX7_34 dX7_takeDigit_34 ?_
        refine lv_if_ne (tgt := 42) hx hb dX7_takeDigit_37 (by decide) (fun c13 => ?_) (fun c13 => ?_)
        · have h := g_if h c13
          refine lv_aload_n hx hb dX7_takeDigit_42 rfl (lv_at hl 1 rfl) ?_
          refine lv_dup hx hb dX7_takeDigit_43 rfl ?_
          refine gg7_3 C G ok.1 u_fl_RX7_31 dX7_takeDigit_44 ?_
          refine lv_iconst (v := 1) hx hb dX7_takeDigit_47 (by decide) ?_
          refine lv_iadd hx hb dX7_takeDigit_48 ?_
          obtain ⟨σ14, e_σ14, h⟩ := g_let h
          refine gp7_3 C G ok.1 u_fl_RX7_31 dX7_takeDigit_49 (fun H locs G => ?_)
          rw [e_σ14] at G
          refine lv_iload_n hx hb dX7_takeDigit_52 rfl (lv_at hl 0 rfl) ?_
          exact ret dX7_takeDigit_53 rfl G (Prod.mk.inj (Option.some.inj h))
        · have h := g_it h c13
          refine lv_iconst (v := 0) hx hb dX7_takeDigit_40 (by decide) ?_
          exact ret dX7_takeDigit_41 rfl G (Prod.mk.inj (Option.some.inj h))
      · have h := g_if h c11
        refine lv_iconst (v := 1) hx hb dX7_takeDigit_25 (by decide) ?_
        refine lv_goto (tgt := 30) hx hb dX7_takeDigit_26 (by decide) ?_
        obtain ⟨σ15, e_σ15, h⟩ := g_let h
        refine gp7_4 C G ok.1 u_fl_RX7_34 (by decide) dX7_takeDigit_30 (fun H locs G => ?_)
        rw [e_σ15] at G
        refine lv_aload_n hx hb dX7_takeDigit_33 rfl (lv_at hl 1 rfl) ?_
        refine gg7_4 C G ok.1 u_fl_RX7_34 dX7_takeDigit_34 ?_
        refine lv_if_ne (tgt := 42) hx hb dX7_takeDigit_37 (by decide) (fun c16 => ?_) (fun c16 => ?_)
        · have h := g_if h c16
          refine lv_aload_n hx hb dX7_takeDigit_42 rfl (lv_at hl 1 rfl) ?_
          refine lv_dup hx hb dX7_takeDigit_43 rfl ?_
          refine gg7_3 C G ok.1 u_fl_RX7_31 dX7_takeDigit_44 ?_
          refine lv_iconst (v := 1) hx hb dX7_takeDigit_47 (by decide) ?_
          refine lv_iadd hx hb dX7_takeDigit_48 ?_
          obtain ⟨σ17, e_σ17, h⟩ := g_let h
          refine gp7_3 C G ok.1 u_fl_RX7_31 dX7_takeDigit_49 (fun H locs G => ?_)
          rw [e_σ17] at G
          refine lv_iload_n hx hb dX7_takeDigit_52 rfl (lv_at hl 0 rfl) ?_
          exact ret dX7_takeDigit_53 rfl G (Prod.mk.inj (Option.some.inj h))
        · have h := g_it h c16
          refine lv_iconst (v := 0) hx hb dX7_takeDigit_40 (by decide) ?_
          exact ret dX7_takeDigit_41 rfl G (Prod.mk.inj (Option.some.inj h))

def fX7_takeEdge (σ : gM) (t : Nat) (a1 : Int32) : Option (gM) :=
  ((fX7_next σ t).bind fun v1 =>
  (if v1 = 45 then
    ((fX7_takeSign σ t 45).bind fun σ5 =>
    ((fX7_takeSign σ5 t 47).bind fun σ7 =>
    ((fX7_takeDigit σ7 t 0).bind fun pv9 => gl pv9.1 fun v9 => gl pv9.2 fun σ10 =>
    ((fX1_setEdge σ10 (t + 3) a1 (-1) v9).bind fun σ12 =>
    some σ12))))
  else
    ((fX7_takeDigit σ t 9).bind fun pv14 => gl pv14.1 fun v14 => gl pv14.2 fun σ15 =>
    (gl (v14 * 100) fun w16 =>
    ((fX7_takeDigit σ15 t 9).bind fun pv17 => gl pv17.1 fun v17 => gl pv17.2 fun σ18 =>
    (gl (w16 + (v17 * 10)) fun w19 =>
    ((fX7_takeDigit σ18 t 9).bind fun pv20 => gl pv20.1 fun v20 => gl pv20.2 fun σ21 =>
    (gl (w19 + v20) fun w22 =>
    ((fX7_takeSign σ21 t 47).bind fun σ24 =>
    ((fX7_takeDigit σ24 t 9).bind fun pv26 => gl pv26.1 fun v26 => gl pv26.2 fun σ27 =>
    ((fX1_setEdge σ27 (t + 3) a1 w22 v26).bind fun σ29 =>
    some σ29)))))))))))
set_option maxHeartbeats 4000000 in
set_option maxRecDepth 100000 in
theorem mX7_takeEdge (l : Launch) (X : gX) (σ σ' : gM) (t : Nat) (a1 : Int32) (ok : gok7 X t) (h : fX7_takeEdge σ t a1 = some σ') : Met l yX7_takeEdge (Cond.code yX7_takeEdge cX7_takeEdge 4 none :: gBig) ({ frames := 3, cells := 0, slots := 0, locals := 63 }) (gPc X σ [.ref (xN X + t), .int a1]) (gQv X σ') 0 0 (xA X) := by
  refine g_metv (cc := cX7_takeEdge) (maxL := 4) (own := RX7) (by decide) rfl rfl (Nat.le_of_ble_eq_true rfl) ?_
  intro p ev s m args below meth c Q C G ret ls hl
  obtain ⟨⟨hx, hb, hml, hown, hts⟩, hK⟩ := id C
  have hl : lv_has ls 4 [(0, .ref (xN X + t)), (1, .int a1)] := hl
  unfold fX7_takeEdge at h
  refine lv_aload_n hx hb dX7_takeEdge_0 rfl (lv_at hl 0 rfl) ?_
  obtain ⟨v1, e_v1, h⟩ := g_bind h
  refine g_calli (g_runV (n := 0) (As := []) (rest := []) C G (mX7_next l X σ t v1 ok e_v1) ok.1.2 (gE_7 ok.1.1) rfl (g_goodV u_ml_RX7_56 u_im_yX7_next u_se_yX7_next u_in_RX7 u_co_yX7_next) rfl rfl rfl (by decide +kernel) ⟨Nat.le_of_ble_eq_true rfl, Nat.le_of_ble_eq_true rfl⟩ rfl hl.1 rfl (Nat.le_of_ble_eq_true rfl) dX7_takeEdge_1 ⟨Nat.zero_le _, Nat.zero_le _⟩) G (fun H locs G => ?_)
  refine lv_bipush (v := 45) hx hb dX7_takeEdge_4 (by decide) ?_
  refine lv_icmp_ne (tgt := 13) hx hb dX7_takeEdge_6 (by decide) (fun c2 => ?_) (fun c2 => ?_)
  · have h := g_if h c2
    refine lv_iconst (v := 0) hx hb dX7_takeEdge_13 (by decide) ?_
    refine lv_istore_n (lv' := [(2, .int 0), (0, .ref (xN X + t)), (1, .int a1)]) hx hb dX7_takeEdge_14 rfl hl (by decide) rfl (fun ls hl => ?_)
    refine lv_iconst (v := (-1)) hx hb dX7_takeEdge_15 (by decide) ?_
    refine lv_istore_n (lv' := [(3, .int (-1)), (2, .int 0), (0, .ref (xN X + t)), (1, .int a1)]) hx hb dX7_takeEdge_16 rfl hl (by decide) rfl (fun ls hl => ?_)
    refine lv_iload_n hx hb dX7_takeEdge_17 rfl (lv_at hl 1 rfl) ?_
    refine lv_if_eq (tgt := 30) hx hb dX7_takeEdge_18 (by decide) (fun _ => ?_) (fun c13 => absurd c13 (by decide))
    refine lv_aload_n hx hb dX7_takeEdge_30 rfl (lv_at hl 2 rfl) ?_
    refine lv_bipush (v := 9) hx hb dX7_takeEdge_31 (by decide) ?_
    obtain ⟨⟨v14, σ15⟩, e_v14, h⟩ := g_bind h
    have h := g_let2 (v := v14) rfl h
    have h := g_let2 (v := σ15) rfl h
    refine g_calli (g_runV (n := 1) (As := [.int 9]) (rest := []) C G (mX7_takeDigit l X σ σ15 t 9 v14 ok e_v14) ok.1.2 (gE_7 ok.1.1) rfl (g_goodV u_ml_RX7_49 u_im_yX7_takeDigit u_se_yX7_takeDigit u_in_RX7 u_co_yX7_takeDigit) rfl rfl rfl (by decide +kernel) ⟨Nat.le_of_ble_eq_true rfl, Nat.le_of_ble_eq_true rfl⟩ rfl hl.1 rfl (Nat.le_of_ble_eq_true rfl) dX7_takeEdge_33 ⟨Nat.zero_le _, Nat.zero_le _⟩) G (fun H locs G => ?_)
    refine lv_bipush (v := 100) hx hb dX7_takeEdge_36 (by decide) ?_
    refine lv_imul hx hb dX7_takeEdge_38 ?_
    refine lv_topi (fun w16 e_w16 => ?_)
    have h := g_let2 e_w16 h
    refine lv_istore_n (lv' := [(3, .int w16), (2, .int 0), (0, .ref (xN X + t)), (1, .int a1)]) hx hb dX7_takeEdge_39 rfl hl (by decide) rfl (fun ls hl => ?_)
    refine lv_iload_n hx hb dX7_takeEdge_40 rfl (lv_at hl 0 rfl) ?_
    refine lv_aload_n hx hb dX7_takeEdge_41 rfl (lv_at hl 2 rfl) ?_
    refine lv_bipush (v := 9) hx hb dX7_takeEdge_42 (by decide) ?_
    obtain ⟨⟨v17, σ18⟩, e_v17, h⟩ := g_bind h
    have h := g_let2 (v := v17) rfl h
    have h := g_let2 (v := σ18) rfl h
    refine g_calli (g_runV (n := 1) (As := [.int 9]) (rest := [.int w16]) C G (mX7_takeDigit l X σ15 σ18 t 9 v17 ok e_v17) ok.1.2 (gE_7 ok.1.1) rfl (g_goodV u_ml_RX7_49 u_im_yX7_takeDigit u_se_yX7_takeDigit u_in_RX7 u_co_yX7_takeDigit) rfl rfl rfl (by decide +kernel) ⟨Nat.le_of_ble_eq_true rfl, Nat.le_of_ble_eq_true rfl⟩ rfl hl.1 rfl (Nat.le_of_ble_eq_true rfl) dX7_takeEdge_44 ⟨Nat.zero_le _, Nat.zero_le _⟩) G (fun H locs G => ?_)
    refine lv_bipush (v := 10) hx hb dX7_takeEdge_47 (by decide) ?_
    refine lv_imul hx hb dX7_takeEdge_49 ?_
    refine lv_iadd hx hb dX7_takeEdge_50 ?_
    refine lv_topi (fun w19 e_w19 => ?_)
    have h := g_let2 e_w19 h
    refine lv_istore_n (lv' := [(3, .int w19), (2, .int 0), (0, .ref (xN X + t)), (1, .int a1)]) hx hb dX7_takeEdge_51 rfl hl (by decide) rfl (fun ls hl => ?_)
    refine lv_iload_n hx hb dX7_takeEdge_52 rfl (lv_at hl 0 rfl) ?_
    refine lv_aload_n hx hb dX7_takeEdge_53 rfl (lv_at hl 2 rfl) ?_
    refine lv_bipush (v := 9) hx hb dX7_takeEdge_54 (by decide) ?_
    obtain ⟨⟨v20, σ21⟩, e_v20, h⟩ := g_bind h
    have h := g_let2 (v := v20) rfl h
    have h := g_let2 (v := σ21) rfl h
    refine g_calli (g_runV (n := 1) (As := [.int 9]) (rest := [.int w19]) C G (mX7_takeDigit l X σ18 σ21 t 9 v20 ok e_v20) ok.1.2 (gE_7 ok.1.1) rfl (g_goodV u_ml_RX7_49 u_im_yX7_takeDigit u_se_yX7_takeDigit u_in_RX7 u_co_yX7_takeDigit) rfl rfl rfl (by decide +kernel) ⟨Nat.le_of_ble_eq_true rfl, Nat.le_of_ble_eq_true rfl⟩ rfl hl.1 rfl (Nat.le_of_ble_eq_true rfl) dX7_takeEdge_56 ⟨Nat.zero_le _, Nat.zero_le _⟩) G (fun H locs G => ?_)
    refine lv_iadd hx hb dX7_takeEdge_59 ?_
    refine lv_topi (fun w22 e_w22 => ?_)
    have h := g_let2 e_w22 h
    refine lv_istore_n (lv' := [(3, .int w22), (2, .int 0), (0, .ref (xN X + t)), (1, .int a1)]) hx hb dX7_takeEdge_60 rfl hl (by decide) rfl (fun ls hl => ?_)
    refine lv_aload_n hx hb dX7_takeEdge_61 rfl (lv_at hl 2 rfl) ?_
    refine lv_bipush (v := 47) hx hb dX7_takeEdge_62 (by decide) ?_
    obtain ⟨σ24, e_σ24, h⟩ := g_bind h
    refine g_callv (g_runV (n := 1) (As := [.int 47]) (rest := []) C G (mX7_takeSign l X σ21 σ24 t 47 ok e_σ24) ok.1.2 (gE_7 ok.1.1) rfl (g_goodV u_ml_RX7_42 u_im_yX7_takeSign u_se_yX7_takeSign u_in_RX7 u_co_yX7_takeSign) rfl rfl rfl (by decide +kernel) ⟨Nat.le_of_ble_eq_true rfl, Nat.le_of_ble_eq_true rfl⟩ rfl hl.1 rfl (Nat.le_of_ble_eq_true rfl) dX7_takeEdge_64 ⟨Nat.zero_le _, Nat.zero_le _⟩) G (fun H locs G => ?_)
    refine lv_aload_n hx hb dX7_takeEdge_67 rfl (lv_at hl 2 rfl) ?_
    refine gg7_1 C G ok.1 ok.2.1.2 u_fl_RX7_23 dX7_takeEdge_68 ?_
    refine lv_iload_n hx hb dX7_takeEdge_71 rfl (lv_at hl 3 rfl) ?_
    refine lv_iload_n hx hb dX7_takeEdge_72 rfl (lv_at hl 0 rfl) ?_
    refine lv_aload_n hx hb dX7_takeEdge_73 rfl (lv_at hl 2 rfl) ?_
    refine lv_iload_n hx hb dX7_takeEdge_74 rfl (lv_at hl 1 rfl) ?_
    refine lv_if_eq (tgt := 82) hx hb dX7_takeEdge_75 (by decide) (fun _ => ?_) (fun c25 => absurd c25 (by decide))
    refine lv_bipush (v := 9) hx hb dX7_takeEdge_82 (by decide) ?_
    obtain ⟨⟨v26, σ27⟩, e_v26, h⟩ := g_bind h
    have h := g_let2 (v := v26) rfl h
    have h := g_let2 (v := σ27) rfl h
    refine g_calli (g_runV (n := 1) (As := [.int 9]) (rest := [.int w22, .int a1, .ref (xN X + (t + 3))]) C G (mX7_takeDigit l X σ24 σ27 t 9 v26 ok e_v26) ok.1.2 (gE_7 ok.1.1) rfl (g_goodV u_ml_RX7_49 u_im_yX7_takeDigit u_se_yX7_takeDigit u_in_RX7 u_co_yX7_takeDigit) rfl rfl rfl (by decide +kernel) ⟨Nat.le_of_ble_eq_true rfl, Nat.le_of_ble_eq_true rfl⟩ rfl hl.1 rfl (Nat.le_of_ble_eq_true rfl) dX7_takeEdge_84 ⟨Nat.zero_le _, Nat.zero_le _⟩) G (fun H locs G => ?_)
    obtain ⟨σ29, e_σ29, h⟩ := g_bind h
    refine g_callv (g_runV (n := 3) (As := [.int a1, .int w22, .int v26]) (rest := []) C G (mX1_setEdge l X σ27 σ29 (t + 3) a1 w22 v26 ok.2.2.2 e_σ29) ok.2.2.2.1.2 (gE_1 ok.2.2.2.1.1) rfl (g_goodV u_ml_RX7_60 u_im_yX1_setEdge u_se_yX1_setEdge u_in_RX1 u_co_yX1_setEdge) rfl rfl rfl (by decide +kernel) ⟨Nat.le_of_ble_eq_true rfl, Nat.le_of_ble_eq_true rfl⟩ rfl hl.1 rfl (Nat.le_of_ble_eq_true rfl) dX7_takeEdge_87 ⟨Nat.zero_le _, Nat.zero_le _⟩) G (fun H locs G => ?_)
    exact ret dX7_takeEdge_90 G (Option.some.inj h)
  · have h := g_it h c2
    refine lv_iconst (v := 1) hx hb dX7_takeEdge_9 (by decide) ?_
    refine lv_goto (tgt := 14) hx hb dX7_takeEdge_10 (by decide) ?_
    refine lv_istore_n (lv' := [(2, .int 1), (0, .ref (xN X + t)), (1, .int a1)]) hx hb dX7_takeEdge_14 rfl hl (by decide) rfl (fun ls hl => ?_)
    refine lv_iconst (v := (-1)) hx hb dX7_takeEdge_15 (by decide) ?_
    refine lv_istore_n (lv' := [(3, .int (-1)), (2, .int 1), (0, .ref (xN X + t)), (1, .int a1)]) hx hb dX7_takeEdge_16 rfl hl (by decide) rfl (fun ls hl => ?_)
    refine lv_iload_n hx hb dX7_takeEdge_17 rfl (lv_at hl 1 rfl) ?_
    refine lv_if_eq (tgt := 30) hx hb dX7_takeEdge_18 (by decide) (fun c3 => absurd c3 (by decide)) (fun _ => ?_)
    refine lv_aload_n hx hb dX7_takeEdge_21 rfl (lv_at hl 2 rfl) ?_
    refine lv_bipush (v := 45) hx hb dX7_takeEdge_22 (by decide) ?_
    obtain ⟨σ5, e_σ5, h⟩ := g_bind h
    refine g_callv (g_runV (n := 1) (As := [.int 45]) (rest := []) C G (mX7_takeSign l X σ σ5 t 45 ok e_σ5) ok.1.2 (gE_7 ok.1.1) rfl (g_goodV u_ml_RX7_42 u_im_yX7_takeSign u_se_yX7_takeSign u_in_RX7 u_co_yX7_takeSign) rfl rfl rfl (by decide +kernel) ⟨Nat.le_of_ble_eq_true rfl, Nat.le_of_ble_eq_true rfl⟩ rfl hl.1 rfl (Nat.le_of_ble_eq_true rfl) dX7_takeEdge_24 ⟨Nat.zero_le _, Nat.zero_le _⟩) G (fun H locs G => ?_)
    refine lv_goto (tgt := 61) hx hb dX7_takeEdge_27 (by decide) ?_
    refine lv_aload_n hx hb dX7_takeEdge_61 rfl (lv_at hl 2 rfl) ?_
    refine lv_bipush (v := 47) hx hb dX7_takeEdge_62 (by decide) ?_
    obtain ⟨σ7, e_σ7, h⟩ := g_bind h
    refine g_callv (g_runV (n := 1) (As := [.int 47]) (rest := []) C G (mX7_takeSign l X σ5 σ7 t 47 ok e_σ7) ok.1.2 (gE_7 ok.1.1) rfl (g_goodV u_ml_RX7_42 u_im_yX7_takeSign u_se_yX7_takeSign u_in_RX7 u_co_yX7_takeSign) rfl rfl rfl (by decide +kernel) ⟨Nat.le_of_ble_eq_true rfl, Nat.le_of_ble_eq_true rfl⟩ rfl hl.1 rfl (Nat.le_of_ble_eq_true rfl) dX7_takeEdge_64 ⟨Nat.zero_le _, Nat.zero_le _⟩) G (fun H locs G => ?_)
    refine lv_aload_n hx hb dX7_takeEdge_67 rfl (lv_at hl 2 rfl) ?_
    refine gg7_1 C G ok.1 ok.2.1.2 u_fl_RX7_23 dX7_takeEdge_68 ?_
    refine lv_iload_n hx hb dX7_takeEdge_71 rfl (lv_at hl 3 rfl) ?_
    refine lv_iload_n hx hb dX7_takeEdge_72 rfl (lv_at hl 0 rfl) ?_
    refine lv_aload_n hx hb dX7_takeEdge_73 rfl (lv_at hl 2 rfl) ?_
    refine lv_iload_n hx hb dX7_takeEdge_74 rfl (lv_at hl 1 rfl) ?_
    refine lv_if_eq (tgt := 82) hx hb dX7_takeEdge_75 (by decide) (fun c8 => absurd c8 (by decide)) (fun _ => ?_)
    refine lv_iconst (v := 0) hx hb dX7_takeEdge_78 (by decide) ?_
    refine lv_goto (tgt := 84) hx hb dX7_takeEdge_79 (by decide) ?_
    obtain ⟨⟨v9, σ10⟩, e_v9, h⟩ := g_bind h
    have h := g_let2 (v := v9) rfl h
    have h := g_let2 (v := σ10) rfl h
    refine g_calli (g_runV (n := 1) (As := [.int 0]) (rest := [.int (-1), .int a1, .ref (xN X + (t + 3))]) C G (mX7_takeDigit l X σ7 σ10 t 0 v9 ok e_v9) ok.1.2 (gE_7 ok.1.1) rfl (g_goodV u_ml_RX7_49 u_im_yX7_takeDigit u_se_yX7_takeDigit u_in_RX7 u_co_yX7_takeDigit) rfl rfl rfl (by decide +kernel) ⟨Nat.le_of_ble_eq_true rfl, Nat.le_of_ble_eq_true rfl⟩ rfl hl.1 rfl (Nat.le_of_ble_eq_true rfl) dX7_takeEdge_84 ⟨Nat.zero_le _, Nat.zero_le _⟩) G (fun H locs G => ?_)
    obtain ⟨σ12, e_σ12, h⟩ := g_bind h
    refine g_callv (g_runV (n := 3) (As := [.int a1, .int (-1), .int v9]) (rest := []) C G (mX1_setEdge l X σ10 σ12 (t + 3) a1 (-1) v9 ok.2.2.2 e_σ12) ok.2.2.2.1.2 (gE_1 ok.2.2.2.1.1) rfl (g_goodV u_ml_RX7_60 u_im_yX1_setEdge u_se_yX1_setEdge u_in_RX1 u_co_yX1_setEdge) rfl rfl rfl (by decide +kernel) ⟨Nat.le_of_ble_eq_true rfl, Nat.le_of_ble_eq_true rfl⟩ rfl hl.1 rfl (Nat.le_of_ble_eq_true rfl) dX7_takeEdge_87 ⟨Nat.zero_le _, Nat.zero_le _⟩) G (fun H locs G => ?_)
    exact ret dX7_takeEdge_90 G (Option.some.inj h)

def fX7_read_12 (t : Nat) : Nat → gM → Int32 → Option (gM)
  | 0, _, _ => none
  | n + 1, σ, x1 =>
    (if 4 ≤ x1 then
      ((fX7_takeSign σ t 59).bind fun σ5 =>
      ((fX7_takeDigit σ5 t 1).bind fun pv6 => gl pv6.1 fun v6 => gl pv6.2 fun σ7 =>
      ((fX1_setKind σ7 (t + 3) v6).bind fun σ9 =>
      (if (σ9 t 4) = 0 then
        (gl (gset σ9 t (upd (σ9 t) 4 0)) fun σ11 =>
        some σ11)
      else
        (if (σ9 t 3) = (σ9 t 2) then
          (gl (gset σ9 t (upd (σ9 t) 4 1)) fun σ13 =>
          some σ13)
        else
          (gl (gset σ9 t (upd (σ9 t) 4 0)) fun σ14 =>
          some σ14))))))
    else
      (if x1 ≤ 0 then
        ((fX7_takeEdge σ t x1).bind fun σ17 =>
        (gl (x1 + 1) fun w18 =>
        fX7_read_12 t n σ17 w18))
      else
        ((fX7_takeSign σ t 44).bind fun σ20 =>
        ((fX7_takeEdge σ20 t x1).bind fun σ22 =>
        (gl (x1 + 1) fun w23 =>
        fX7_read_12 t n σ22 w23)))))

def fX7_read (σ : gM) (t : Nat) : Option (gM) :=
  (gl (gset σ t (upd (σ t) 3 0)) fun σ1 =>
  (gl (gset σ1 t (upd (σ1 t) 4 1)) fun σ2 =>
  fX7_read_12 t gF σ2 0))
set_option maxHeartbeats 4000000 in
set_option maxRecDepth 100000 in
theorem mX7_read (l : Launch) (X : gX) (σ σ' : gM) (t : Nat) (ok : gok7 X t) (h : fX7_read σ t = some σ') : Met l yX7_read (Cond.code yX7_read cX7_read 2 none :: gBig) ({ frames := 4, cells := 0, slots := 0, locals := 86 }) (gPc X σ [.ref (xN X + t)]) (gQv X σ') 0 0 (xA X) := by
  refine g_metv (cc := cX7_read) (maxL := 2) (own := RX7) (by decide) rfl rfl (Nat.le_of_ble_eq_true rfl) ?_
  intro p ev s m args below meth c Q C G ret ls hl
  obtain ⟨⟨hx, hb, hml, hown, hts⟩, hK⟩ := id C
  have hl : lv_has ls 2 [(0, .ref (xN X + t))] := hl
  have L12 : ∀ (n : Nat) (H : Heap) (locs : List Loc) (ls : Array Slot) (σ : gM) (x1 : Int32), gG X σ s H locs → lv_has ls 2 [(0, .ref (xN X + t)), (1, .int x1)] → fX7_read_12 t n σ x1 = some σ' → W p l ev ({ frames := 4, cells := 0, slots := 0, locals := 86 }) s m args below meth c H locs 0 0 Q (F0 m 12 ls []) := by
    intro n
    induction n with
    | zero =>
      intro H locs ls σ x1 G hl h
      rw [fX7_read_12] at h
      cases h
    | succ n ih =>
      intro H locs ls σ x1 G hl h
      rw [fX7_read_12] at h
      refine lv_iload_n hx hb dX7_read_12 rfl (lv_at hl 1 rfl) ?_
      refine lv_iconst (v := 4) hx hb dX7_read_13 (by decide) ?_
      refine lv_icmp_ge (tgt := 38) hx hb dX7_read_14 (by decide) (fun c3 => ?_) (fun c3 => ?_)
      · have h := g_it h c3
        refine lv_aload_n hx hb dX7_read_38 rfl (lv_at hl 0 rfl) ?_
        refine lv_bipush (v := 59) hx hb dX7_read_39 (by decide) ?_
        obtain ⟨σ5, e_σ5, h⟩ := g_bind h
        refine g_callv (g_runV (n := 1) (As := [.int 59]) (rest := []) C G (mX7_takeSign l X σ σ5 t 59 ok e_σ5) ok.1.2 (gE_7 ok.1.1) rfl (g_goodV u_ml_RX7_42 u_im_yX7_takeSign u_se_yX7_takeSign u_in_RX7 u_co_yX7_takeSign) rfl rfl rfl (by decide +kernel) ⟨Nat.le_of_ble_eq_true rfl, Nat.le_of_ble_eq_true rfl⟩ rfl hl.1 rfl (Nat.le_of_ble_eq_true rfl) dX7_read_41 ⟨Nat.zero_le _, Nat.zero_le _⟩) G (fun H locs G => ?_)
        refine lv_aload_n hx hb dX7_read_44 rfl (lv_at hl 0 rfl) ?_
        refine gg7_1 C G ok.1 ok.2.1.2 u_fl_RX7_23 dX7_read_45 ?_
        refine lv_aload_n hx hb dX7_read_48 rfl (lv_at hl 0 rfl) ?_
        refine lv_iconst (v := 1) hx hb dX7_read_49 (by decide) ?_
        obtain ⟨⟨v6, σ7⟩, e_v6, h⟩ := g_bind h
        have h := g_let2 (v := v6) rfl h
        have h := g_let2 (v := σ7) rfl h
        refine g_calli (g_runV (n := 1) (As := [.int 1]) (rest := [.ref (xN X + (t + 3))]) C G (mX7_takeDigit l X σ5 σ7 t 1 v6 ok e_v6) ok.1.2 (gE_7 ok.1.1) rfl (g_goodV u_ml_RX7_49 u_im_yX7_takeDigit u_se_yX7_takeDigit u_in_RX7 u_co_yX7_takeDigit) rfl rfl rfl (by decide +kernel) ⟨Nat.le_of_ble_eq_true rfl, Nat.le_of_ble_eq_true rfl⟩ rfl hl.1 rfl (Nat.le_of_ble_eq_true rfl) dX7_read_50 ⟨Nat.zero_le _, Nat.zero_le _⟩) G (fun H locs G => ?_)
        obtain ⟨σ9, e_σ9, h⟩ := g_bind h
        refine g_callv (g_runV (n := 1) (As := [.int v6]) (rest := []) C G (mX1_setKind l X σ7 σ9 (t + 3) v6 ok.2.2.2 e_σ9) ok.2.2.2.1.2 (gE_1 ok.2.2.2.1.1) rfl (g_goodV u_ml_RX7_53 u_im_yX1_setKind u_se_yX1_setKind u_in_RX1 u_co_yX1_setKind) rfl rfl rfl (by decide +kernel) ⟨Nat.le_of_ble_eq_true rfl, Nat.le_of_ble_eq_true rfl⟩ rfl hl.1 rfl (Nat.le_of_ble_eq_true rfl) dX7_read_53 ⟨Nat.zero_le _, Nat.zero_le _⟩) G (fun H locs G => ?_)
        refine lv_aload_n hx hb dX7_read_56 rfl (lv_at hl 0 rfl) ?_
        refine lv_aload_n hx hb dX7_read_57 rfl (lv_at hl 0 rfl) ?_
        refine gg7_4 C G ok.1 u_fl_RX7_34 dX7_read_58 ?_
        refine lv_if_eq (tgt := 79) hx hb dX7_read_61 (by decide) (fun c10 => ?_) (fun c10 => ?_)
        · have h := g_it h c10
          refine lv_iconst (v := 0) hx hb dX7_read_79 (by decide) ?_
          obtain ⟨σ11, e_σ11, h⟩ := g_let h
          refine gp7_4 C G ok.1 u_fl_RX7_34 (by decide) dX7_read_80 (fun H locs G => ?_)
          rw [e_σ11] at G
          exact ret dX7_read_83 G (Option.some.inj h)
        · have h := g_if h c10
          refine lv_aload_n hx hb dX7_read_64 rfl (lv_at hl 0 rfl) ?_
          refine gg7_3 C G ok.1 u_fl_RX7_31 dX7_read_65 ?_
          refine lv_aload_n hx hb dX7_read_68 rfl (lv_at hl 0 rfl) ?_
          refine gg7_2 C G ok.1 u_fl_RX7_27 dX7_read_69 ?_
          refine lv_icmp_ne (tgt := 79) hx hb dX7_read_72 (by decide) (fun c12 => ?_) (fun c12 => ?_)
          · have h := g_if h c12
            refine lv_iconst (v := 0) hx hb dX7_read_79 (by decide) ?_
            obtain ⟨σ14, e_σ14, h⟩ := g_let h
            refine gp7_4 C G ok.1 u_fl_RX7_34 (by decide) dX7_read_80 (fun H locs G => ?_)
            rw [e_σ14] at G
            exact ret dX7_read_83 G (Option.some.inj h)
          · have h := g_it h c12
            refine lv_iconst (v := 1) hx hb dX7_read_75 (by decide) ?_
            refine lv_goto (tgt := 80) hx hb dX7_read_76 (by decide) ?_
            obtain ⟨σ13, e_σ13, h⟩ := g_let h
            refine gp7_4 C G ok.1 u_fl_RX7_34 (by decide) dX7_read_80 (fun H locs G => ?_)
            rw [e_σ13] at G
            exact ret dX7_read_83 G (Option.some.inj h)
      · have h := g_if h c3
        refine lv_iload_n hx hb dX7_read_17 rfl (lv_at hl 1 rfl) ?_
        refine lv_if_le (tgt := 27) hx hb dX7_read_18 (by decide) (fun c15 => ?_) (fun c15 => ?_)
        · have h := g_it h c15
          refine lv_aload_n hx hb dX7_read_27 rfl (lv_at hl 0 rfl) ?_
          refine lv_iload_n hx hb dX7_read_28 rfl (lv_at hl 1 rfl) ?_
          obtain ⟨σ17, e_σ17, h⟩ := g_bind h
          refine g_callv (g_runV (n := 1) (As := [.int x1]) (rest := []) C G (mX7_takeEdge l X σ σ17 t x1 ok e_σ17) ok.1.2 (gE_7 ok.1.1) rfl (g_goodV u_ml_RX7_46 u_im_yX7_takeEdge u_se_yX7_takeEdge u_in_RX7 u_co_yX7_takeEdge) rfl rfl rfl (by decide +kernel) ⟨Nat.le_of_ble_eq_true rfl, Nat.le_of_ble_eq_true rfl⟩ rfl hl.1 rfl (Nat.le_of_ble_eq_true rfl) dX7_read_29 ⟨Nat.zero_le _, Nat.zero_le _⟩) G (fun H locs G => ?_)
          obtain ⟨w18, e_w18⟩ : ∃ y : Int32, y = x1 + 1 := ⟨_, rfl⟩
          have h := g_let2 e_w18 h
          refine lv_iinc (v := w18) (lv' := [(1, .int w18), (0, .ref (xN X + t))]) hx hb dX7_read_32 hl (k := 1) rfl (by rw [e_w18]; rfl) (by decide) rfl (fun ls hl => ?_)
          refine lv_goto (tgt := 12) hx hb dX7_read_35 (by decide) ?_
          exact ih _ _ _ σ17 w18 G (lv_sub hl [1, 0] rfl) h
        · have h := g_if h c15
          refine lv_aload_n hx hb dX7_read_21 rfl (lv_at hl 0 rfl) ?_
          refine lv_bipush (v := 44) hx hb dX7_read_22 (by decide) ?_
          obtain ⟨σ20, e_σ20, h⟩ := g_bind h
          refine g_callv (g_runV (n := 1) (As := [.int 44]) (rest := []) C G (mX7_takeSign l X σ σ20 t 44 ok e_σ20) ok.1.2 (gE_7 ok.1.1) rfl (g_goodV u_ml_RX7_42 u_im_yX7_takeSign u_se_yX7_takeSign u_in_RX7 u_co_yX7_takeSign) rfl rfl rfl (by decide +kernel) ⟨Nat.le_of_ble_eq_true rfl, Nat.le_of_ble_eq_true rfl⟩ rfl hl.1 rfl (Nat.le_of_ble_eq_true rfl) dX7_read_24 ⟨Nat.zero_le _, Nat.zero_le _⟩) G (fun H locs G => ?_)
          refine lv_aload_n hx hb dX7_read_27 rfl (lv_at hl 0 rfl) ?_
          refine lv_iload_n hx hb dX7_read_28 rfl (lv_at hl 1 rfl) ?_
          obtain ⟨σ22, e_σ22, h⟩ := g_bind h
          refine g_callv (g_runV (n := 1) (As := [.int x1]) (rest := []) C G (mX7_takeEdge l X σ20 σ22 t x1 ok e_σ22) ok.1.2 (gE_7 ok.1.1) rfl (g_goodV u_ml_RX7_46 u_im_yX7_takeEdge u_se_yX7_takeEdge u_in_RX7 u_co_yX7_takeEdge) rfl rfl rfl (by decide +kernel) ⟨Nat.le_of_ble_eq_true rfl, Nat.le_of_ble_eq_true rfl⟩ rfl hl.1 rfl (Nat.le_of_ble_eq_true rfl) dX7_read_29 ⟨Nat.zero_le _, Nat.zero_le _⟩) G (fun H locs G => ?_)
          obtain ⟨w23, e_w23⟩ : ∃ y : Int32, y = x1 + 1 := ⟨_, rfl⟩
          have h := g_let2 e_w23 h
          refine lv_iinc (v := w23) (lv' := [(1, .int w23), (0, .ref (xN X + t))]) hx hb dX7_read_32 hl (k := 1) rfl (by rw [e_w23]; rfl) (by decide) rfl (fun ls hl => ?_)
          refine lv_goto (tgt := 12) hx hb dX7_read_35 (by decide) ?_
          exact ih _ _ _ σ22 w23 G (lv_sub hl [1, 0] rfl) h
  unfold fX7_read at h
  refine lv_aload_n hx hb dX7_read_0 rfl (lv_at hl 0 rfl) ?_
  refine lv_iconst (v := 0) hx hb dX7_read_1 (by decide) ?_
  obtain ⟨σ1, e_σ1, h⟩ := g_let h
  refine gp7_3 C G ok.1 u_fl_RX7_31 dX7_read_2 (fun H locs G => ?_)
  rw [e_σ1] at G
  refine lv_aload_n hx hb dX7_read_5 rfl (lv_at hl 0 rfl) ?_
  refine lv_iconst (v := 1) hx hb dX7_read_6 (by decide) ?_
  obtain ⟨σ2, e_σ2, h⟩ := g_let h
  refine gp7_4 C G ok.1 u_fl_RX7_34 (by decide) dX7_read_7 (fun H locs G => ?_)
  rw [e_σ2] at G
  refine lv_iconst (v := 0) hx hb dX7_read_10 (by decide) ?_
  refine lv_istore_n (lv' := [(1, .int 0), (0, .ref (xN X + t))]) hx hb dX7_read_11 rfl hl (by decide) rfl (fun ls hl => ?_)
  exact L12  gF _ _ _ σ2 0 G (lv_sub hl [1, 0] rfl) h

def fX7_isSound (σ : gM) (t : Nat) : Option (Int32) :=
  (if (σ t 4) = 0 ∨ (σ t 4) = 1 then
  some (σ t 4)
  else none)
set_option maxHeartbeats 4000000 in
set_option maxRecDepth 100000 in
theorem mX7_isSound (l : Launch) (X : gX) (σ : gM) (t : Nat) (r : Int32) (ok : gok7 X t) (h : fX7_isSound σ t = some r) : Met l yX7_isSound (Cond.code yX7_isSound cX7_isSound 1 (some .boolean) :: gBig) ({ frames := 0, cells := 0, slots := 0, locals := 0 }) (gPc X σ [.ref (xN X + t)]) (gQi X σ r) 0 0 (xA X) := by
  refine g_meti (cc := cX7_isSound) (maxL := 1) (own := RX7) (by decide) rfl rfl (Nat.le_of_ble_eq_true rfl) ?_
  intro p ev s m args below meth c Q C G ret ls hl
  obtain ⟨⟨hx, hb, hml, hown, hts⟩, hK⟩ := id C
  have hl : lv_has ls 1 [(0, .ref (xN X + t))] := hl
  unfold fX7_isSound at h
  refine lv_aload_n hx hb dX7_isSound_0 rfl (lv_at hl 0 rfl) ?_
  refine gg7_4 C G ok.1 u_fl_RX7_34 dX7_isSound_1 ?_
  obtain ⟨c1, h⟩ := g_chk h
  exact ret dX7_isSound_4 (g_z c1) G ⟨Option.some.inj h, rfl⟩

def fX7_draft (σ : gM) (t : Nat) : Option ((Option Nat)) :=
  some (some (t + 3))
set_option maxHeartbeats 4000000 in
set_option maxRecDepth 100000 in
theorem mX7_draft (l : Launch) (X : gX) (σ : gM) (t : Nat) (r : Option Nat) (ok : gok7 X t) (h : fX7_draft σ t = some r) : Met l yX7_draft (Cond.code yX7_draft cX7_draft 1 (some (.object "TornPages$Draft")) :: gBig) ({ frames := 0, cells := 0, slots := 0, locals := 0 }) (gPc X σ [.ref (xN X + t)]) (gQr X σ r) 0 0 (xA X) := by
  refine g_metr (cc := cX7_draft) (maxL := 1) (own := RX7) (by decide) rfl rfl (Nat.le_of_ble_eq_true rfl) ?_
  intro p ev s m args below meth c Q C G ret ls hl
  obtain ⟨⟨hx, hb, hml, hown, hts⟩, hK⟩ := id C
  have hl : lv_has ls 1 [(0, .ref (xN X + t))] := hl
  unfold fX7_draft at h
  refine lv_aload_n hx hb dX7_draft_0 rfl (lv_at hl 0 rfl) ?_
  refine gg7_1 C G ok.1 ok.2.1.2 u_fl_RX7_23 dX7_draft_1 ?_
  exact ret (v := (some (t + 3))) dX7_draft_4 G ⟨Option.some.inj h, rfl⟩
theorem okX7_draft {X : gX} {σ : gM} {t k : Nat} (ok : gok7 X t) (h : fX7_draft σ t = some (some k)) : gok1 X k := by
  unfold fX7_draft at h
  have e : t + 3 = k := Option.some.inj (Option.some.inj h)
  rw [← e]
  exact ok.2.2.2

def fX8_add (σ : gM) (t : Nat) : Option (Int32 × gM) :=
  ((fX7_read σ (t + 111)).bind fun σ2 =>
  ((fX7_isSound σ2 (t + 111)).bind fun v3 =>
  (if v3 = 0 then
    some ((-1002), σ2)
  else
    ((fX6_size σ2 ((t + 1) + 1)).bind fun v5 =>
    (if v5 < 12 then
      ((fX7_draft σ2 (t + 111)).bind fun v7 =>
      (go v7 (
        none)
        fun k8 =>
        ((fX8_append σ2 t k8).bind fun pv9 => gl pv9.1 fun v9 => gl pv9.2 fun σ10 =>
        some (v9, σ10))))
    else
      some ((-1003), σ2))))))
set_option maxHeartbeats 4000000 in
set_option maxRecDepth 100000 in
theorem mX8_add (l : Launch) (X : gX) (σ σ' : gM) (t : Nat) (r : Int32) (ok : gok8 X t) (h : fX8_add σ t = some (r, σ')) : Met l yX8_add (Cond.code yX8_add cX8_add 1 (some .int) :: gBig) ({ frames := 6, cells := 0, slots := 0, locals := 171 }) (gPc X σ [.ref (xN X + t)]) (gQi X σ' r) 0 0 (xA X) := by
  refine g_meti (cc := cX8_add) (maxL := 1) (own := RX8) (by decide) rfl rfl (Nat.le_of_ble_eq_true rfl) ?_
  intro p ev s m args below meth c Q C G ret ls hl
  obtain ⟨⟨hx, hb, hml, hown, hts⟩, hK⟩ := id C
  have hl : lv_has ls 1 [(0, .ref (xN X + t))] := hl
  unfold fX8_add at h
  refine lv_aload_n hx hb dX8_add_0 rfl (lv_at hl 0 rfl) ?_
  refine gg8_4 C G ok.1 ok.2.1.2.2.2.2.1 u_fl_RX8_36 dX8_add_1 ?_
  obtain ⟨σ2, e_σ2, h⟩ := g_bind h
  refine g_callv (g_runV (n := 0) (As := []) (rest := []) C G (mX7_read l X σ σ2 (t + 111) ok.2.2.2.2.2.2.1 e_σ2) ok.2.2.2.2.2.2.1.1.2 (gE_7 ok.2.2.2.2.2.2.1.1.1) rfl (g_goodV u_ml_RX8_94 u_im_yX7_read u_se_yX7_read u_in_RX7 u_co_yX7_read) rfl rfl rfl (by decide +kernel) ⟨Nat.le_of_ble_eq_true rfl, Nat.le_of_ble_eq_true rfl⟩ rfl hl.1 rfl (Nat.le_of_ble_eq_true rfl) dX8_add_4 ⟨Nat.zero_le _, Nat.zero_le _⟩) G (fun H locs G => ?_)
  refine lv_aload_n hx hb dX8_add_7 rfl (lv_at hl 0 rfl) ?_
  refine gg8_4 C G ok.1 ok.2.1.2.2.2.2.1 u_fl_RX8_36 dX8_add_8 ?_
  obtain ⟨v3, e_v3, h⟩ := g_bind h
  refine g_calli (g_runV (n := 0) (As := []) (rest := []) C G (mX7_isSound l X σ2 (t + 111) v3 ok.2.2.2.2.2.2.1 e_v3) ok.2.2.2.2.2.2.1.1.2 (gE_7 ok.2.2.2.2.2.2.1.1.1) rfl (g_goodV u_ml_RX8_97 u_im_yX7_isSound u_se_yX7_isSound u_in_RX7 u_co_yX7_isSound) rfl rfl rfl (by decide +kernel) ⟨Nat.le_of_ble_eq_true rfl, Nat.le_of_ble_eq_true rfl⟩ rfl hl.1 rfl (Nat.le_of_ble_eq_true rfl) dX8_add_11 ⟨Nat.zero_le _, Nat.zero_le _⟩) G (fun H locs G => ?_)
  refine lv_if_ne (tgt := 21) hx hb dX8_add_14 (by decide) (fun c4 => ?_) (fun c4 => ?_)
  · have h := g_if h c4
    refine lv_aload_n hx hb dX8_add_21 rfl (lv_at hl 0 rfl) ?_
    refine gg8_0 C G ok.1 ok.2.1.1 u_fl_RX8_10 dX8_add_22 ?_
    refine gn0_0 C G ok.2.2.1.1 ok.2.2.1.2.1.1 (List.mem_of_getElem? (i := 1) rfl) dX8_add_25 ?_
    obtain ⟨v5, e_v5, h⟩ := g_bind h
    refine g_calli (g_runV (n := 0) (As := []) (rest := []) C G (mX6_size l X σ2 ((t + 1) + 1) v5 ok.2.2.1.2.2.1 e_v5) ok.2.2.1.2.2.1.1.2 (gE_6 ok.2.2.1.2.2.1.1.1) rfl (g_goodV u_ml_RX8_77 u_im_yX6_size u_se_yX6_size u_in_RX6 u_co_yX6_size) rfl rfl rfl (by decide +kernel) ⟨Nat.le_of_ble_eq_true rfl, Nat.le_of_ble_eq_true rfl⟩ rfl hl.1 rfl (Nat.le_of_ble_eq_true rfl) dX8_add_28 ⟨Nat.zero_le _, Nat.zero_le _⟩) G (fun H locs G => ?_)
    refine lv_bipush (v := 12) hx hb dX8_add_31 (by decide) ?_
    refine lv_icmp_lt (tgt := 40) hx hb dX8_add_33 (by decide) (fun c6 => ?_) (fun c6 => ?_)
    · have h := g_it h c6
      refine lv_aload_n hx hb dX8_add_40 rfl (lv_at hl 0 rfl) ?_
      refine lv_aload_n hx hb dX8_add_41 rfl (lv_at hl 0 rfl) ?_
      refine gg8_4 C G ok.1 ok.2.1.2.2.2.2.1 u_fl_RX8_36 dX8_add_42 ?_
      obtain ⟨v7, e_v7, h⟩ := g_bind h
      refine g_callr (g_runV (n := 0) (As := []) (rest := [.ref (xN X + t)]) C G (mX7_draft l X σ2 (t + 111) v7 ok.2.2.2.2.2.2.1 e_v7) ok.2.2.2.2.2.2.1.1.2 (gE_7 ok.2.2.2.2.2.2.1.1.1) rfl (g_goodV u_ml_RX8_101 u_im_yX7_draft u_se_yX7_draft u_in_RX7 u_co_yX7_draft) rfl rfl rfl (by decide +kernel) ⟨Nat.le_of_ble_eq_true rfl, Nat.le_of_ble_eq_true rfl⟩ rfl hl.1 rfl (Nat.le_of_ble_eq_true rfl) dX8_add_45 ⟨Nat.zero_le _, Nat.zero_le _⟩) G (fun H locs G => ?_)
      cases v7 with
      | none =>
        have h := g_gon h
        cases h
      | some k8 =>
        have h := g_gos h
        have okk8 := okX7_draft ok.2.2.2.2.2.2.1 e_v7
        obtain ⟨⟨v9, σ10⟩, e_v9, h⟩ := g_bind h
        have h := g_let2 (v := v9) rfl h
        have h := g_let2 (v := σ10) rfl h
        refine g_calli (g_runV (n := 1) (As := [.ref (xN X + k8)]) (rest := []) C G (mX8_append l X σ2 σ10 t k8 v9 ok okk8 e_v9) ok.1.2 (gE_8 ok.1.1) rfl (g_goodV u_ml_RX8_90 u_im_yX8_append u_se_yX8_append u_in_RX8 u_co_yX8_append) rfl rfl rfl (by decide +kernel) ⟨Nat.le_of_ble_eq_true rfl, Nat.le_of_ble_eq_true rfl⟩ rfl hl.1 rfl (Nat.le_of_ble_eq_true rfl) dX8_add_48 ⟨Nat.zero_le _, Nat.zero_le _⟩) G (fun H locs G => ?_)
        exact ret dX8_add_51 rfl G (Prod.mk.inj (Option.some.inj h))
    · have h := g_if h c6
      refine lv_sipush (v := (-1003)) hx hb dX8_add_36 (by decide) ?_
      exact ret dX8_add_39 rfl G (Prod.mk.inj (Option.some.inj h))
  · have h := g_it h c4
    refine lv_sipush (v := (-1002)) hx hb dX8_add_17 (by decide) ?_
    exact ret dX8_add_20 rfl G (Prod.mk.inj (Option.some.inj h))

def fX8_isScrap (σ : gM) (t : Nat) (a1 : Int32) : Option (Int32) :=
  ((fX6_size σ ((t + 1) + 1)).bind fun v1 =>
  ((fX8_isWithin σ a1 0 (v1 - 1)).bind fun v2 =>
  (if v2 = 0 ∨ v2 = 1 then
  some v2
  else none)))
set_option maxHeartbeats 4000000 in
set_option maxRecDepth 100000 in
theorem mX8_isScrap (l : Launch) (X : gX) (σ : gM) (t : Nat) (a1 : Int32) (r : Int32) (ok : gok8 X t) (h : fX8_isScrap σ t a1 = some r) : Met l yX8_isScrap (Cond.code yX8_isScrap cX8_isScrap 2 (some .boolean) :: gBig) ({ frames := 1, cells := 0, slots := 0, locals := 22 }) (gPc X σ [.ref (xN X + t), .int a1]) (gQi X σ r) 0 0 (xA X) := by
  refine g_meti (cc := cX8_isScrap) (maxL := 2) (own := RX8) (by decide) rfl rfl (Nat.le_of_ble_eq_true rfl) ?_
  intro p ev s m args below meth c Q C G ret ls hl
  obtain ⟨⟨hx, hb, hml, hown, hts⟩, hK⟩ := id C
  have hl : lv_has ls 2 [(0, .ref (xN X + t)), (1, .int a1)] := hl
  unfold fX8_isScrap at h
  refine lv_iload_n hx hb dX8_isScrap_0 rfl (lv_at hl 1 rfl) ?_
  refine lv_iconst (v := 0) hx hb dX8_isScrap_1 (by decide) ?_
  refine lv_aload_n hx hb dX8_isScrap_2 rfl (lv_at hl 0 rfl) ?_
  refine gg8_0 C G ok.1 ok.2.1.1 u_fl_RX8_10 dX8_isScrap_3 ?_
  refine gn0_0 C G ok.2.2.1.1 ok.2.2.1.2.1.1 (List.mem_of_getElem? (i := 1) rfl) dX8_isScrap_6 ?_
  obtain ⟨v1, e_v1, h⟩ := g_bind h
  refine g_calli (g_runV (n := 0) (As := []) (rest := [.int 0, .int a1]) C G (mX6_size l X σ ((t + 1) + 1) v1 ok.2.2.1.2.2.1 e_v1) ok.2.2.1.2.2.1.1.2 (gE_6 ok.2.2.1.2.2.1.1.1) rfl (g_goodV u_ml_RX8_77 u_im_yX6_size u_se_yX6_size u_in_RX6 u_co_yX6_size) rfl rfl rfl (by decide +kernel) ⟨Nat.le_of_ble_eq_true rfl, Nat.le_of_ble_eq_true rfl⟩ rfl hl.1 rfl (Nat.le_of_ble_eq_true rfl) dX8_isScrap_9 ⟨Nat.zero_le _, Nat.zero_le _⟩) G (fun H locs G => ?_)
  refine lv_iconst (v := 1) hx hb dX8_isScrap_12 (by decide) ?_
  refine lv_isub hx hb dX8_isScrap_13 ?_
  obtain ⟨v2, e_v2, h⟩ := g_bind h
  refine g_calli (g_runS (n := 3) (As := [.int a1, .int 0, .int (v1 - 1)]) (rest := []) C G (mX8_isWithin l X σ a1 0 (v1 - 1) v2 e_v2) (g_goodS u_ml_RX8_47 u_st_yX8_isWithin u_in_RX8 u_co_yX8_isWithin) rfl rfl rfl (by decide +kernel) ⟨Nat.le_of_ble_eq_true rfl, Nat.le_of_ble_eq_true rfl⟩ rfl hl.1 rfl (Nat.le_of_ble_eq_true rfl) dX8_isScrap_14 ⟨Nat.zero_le _, Nat.zero_le _⟩) G (fun H locs G => ?_)
  obtain ⟨c3, h⟩ := g_chk h
  exact ret dX8_isScrap_17 (g_z c3) G ⟨Option.some.inj h, rfl⟩

def fX5_cut (σ : gM) (t : Nat) (a1 : Int32) (a2 : Int32) : Option (gM) :=
  (gl (((nI (gln (t + 1))) - a2) - a1) fun w1 =>
  (if a1 < 0 then
    some σ
  else
    (if a2 < 0 then
      some σ
    else
      (if w1 < 0 then
        some σ
      else
        (if ¬ (a1 + a2) < 0 ∧ ¬ a1 < 0 ∧ ¬ w1 < 0 ∧ (a1 + a2).toNatClampNeg + w1.toNatClampNeg ≤ gln (t + 1) ∧ a1.toNatClampNeg + w1.toNatClampNeg ≤ gln (t + 1) then
        (gl (gset σ (t + 1) (va_cpy (σ (t + 1)) (σ (t + 1)) (a1 + a2).toNatClampNeg a1.toNatClampNeg w1.toNatClampNeg)) fun σ6 =>
        some σ6)
        else none)))))
set_option maxHeartbeats 4000000 in
set_option maxRecDepth 100000 in
theorem mX5_cut (l : Launch) (X : gX) (σ σ' : gM) (t : Nat) (a1 : Int32) (a2 : Int32) (ok : gok5 X t) (h : fX5_cut σ t a1 a2 = some σ') : Met l yX5_cut (Cond.code yX5_cut cX5_cut 4 none :: gBig) ({ frames := 1, cells := 0, slots := 0, locals := 64 }) (gPc X σ [.ref (xN X + t), .int a1, .int a2]) (gQv X σ') 0 0 (xA X) := by
  refine g_metv (cc := cX5_cut) (maxL := 4) (own := RX5) (by decide) rfl rfl (Nat.le_of_ble_eq_true rfl) ?_
  intro p ev s m args below meth c Q C G ret ls hl
  obtain ⟨⟨hx, hb, hml, hown, hts⟩, hK⟩ := id C
  have hl : lv_has ls 4 [(0, .ref (xN X + t)), (1, .int a1), (2, .int a2)] := hl
  unfold fX5_cut at h
  refine lv_aload_n hx hb dX5_cut_0 rfl (lv_at hl 0 rfl) ?_
  refine gg5_0 C G ok.1 ok.2.1 u_fl_RX5_15 dX5_cut_1 ?_
  refine g_alen C G ok.2.2 dX5_cut_4 ?_
  refine lv_iload_n hx hb dX5_cut_5 rfl (lv_at hl 2 rfl) ?_
  refine lv_isub hx hb dX5_cut_6 ?_
  refine lv_iload_n hx hb dX5_cut_7 rfl (lv_at hl 1 rfl) ?_
  refine lv_isub hx hb dX5_cut_8 ?_
  refine lv_topi (fun w1 e_w1 => ?_)
  have h := g_let2 e_w1 h
  refine lv_istore_n (lv' := [(3, .int w1), (0, .ref (xN X + t)), (1, .int a1), (2, .int a2)]) hx hb dX5_cut_9 rfl hl (by decide) rfl (fun ls hl => ?_)
  refine lv_iload_n hx hb dX5_cut_10 rfl (lv_at hl 2 rfl) ?_
  refine lv_if_lt (tgt := 38) hx hb dX5_cut_11 (by decide) (fun c2 => ?_) (fun c2 => ?_)
  · have h := g_it h c2
    exact ret dX5_cut_38 G (Option.some.inj h)
  · have h := g_if h c2
    refine lv_iload_n hx hb dX5_cut_14 rfl (lv_at hl 3 rfl) ?_
    refine lv_if_lt (tgt := 38) hx hb dX5_cut_15 (by decide) (fun c3 => ?_) (fun c3 => ?_)
    · have h := g_it h c3
      exact ret dX5_cut_38 G (Option.some.inj h)
    · have h := g_if h c3
      refine lv_iload_n hx hb dX5_cut_18 rfl (lv_at hl 0 rfl) ?_
      refine lv_if_lt (tgt := 38) hx hb dX5_cut_19 (by decide) (fun c4 => ?_) (fun c4 => ?_)
      · have h := g_it h c4
        exact ret dX5_cut_38 G (Option.some.inj h)
      · have h := g_if h c4
        refine lv_aload_n hx hb dX5_cut_22 rfl (lv_at hl 1 rfl) ?_
        refine gg5_0 C G ok.1 ok.2.1 u_fl_RX5_15 dX5_cut_23 ?_
        refine lv_iload_n hx hb dX5_cut_26 rfl (lv_at hl 2 rfl) ?_
        refine lv_iload_n hx hb dX5_cut_27 rfl (lv_at hl 3 rfl) ?_
        refine lv_iadd hx hb dX5_cut_28 ?_
        refine lv_aload_n hx hb dX5_cut_29 rfl (lv_at hl 1 rfl) ?_
        refine gg5_0 C G ok.1 ok.2.1 u_fl_RX5_15 dX5_cut_30 ?_
        refine lv_iload_n hx hb dX5_cut_33 rfl (lv_at hl 2 rfl) ?_
        refine lv_iload_n hx hb dX5_cut_34 rfl (lv_at hl 0 rfl) ?_
        obtain ⟨c5, h⟩ := g_chk h
        obtain ⟨σ6, e_σ6, h⟩ := g_let h
        refine g_copy C G ok.2.2 ok.2.2 hl.1 u_ml_RX5_30 u_na_arraycopyName u_st_arraycopyName u_in_java_lang_System c5 (Nat.le_of_ble_eq_true rfl) (Nat.le_of_ble_eq_true rfl) dX5_cut_35 (fun H locs G => ?_)
        rw [e_σ6] at G
        exact ret dX5_cut_38 G (Option.some.inj h)

def fX6_remove (σ : gM) (t : Nat) (a1 : Int32) : Option (gM) :=
  (if a1 < 0 then
    some σ
  else
    (if a1 < (σ t 3) then
      ((fX5_cut σ (t + 1) a1 1).bind fun σ4 =>
      ((fX5_cut σ4 (t + 3) (a1 * 32) 32).bind fun σ6 =>
      ((fX5_cut σ6 (t + 5) (a1 * 32) 32).bind fun σ8 =>
      (gl (gset σ8 t (upd (σ8 t) 3 ((σ8 t 3) - 1))) fun σ9 =>
      some σ9))))
    else
      some σ))
set_option maxHeartbeats 4000000 in
set_option maxRecDepth 100000 in
theorem mX6_remove (l : Launch) (X : gX) (σ σ' : gM) (t : Nat) (a1 : Int32) (ok : gok6 X t) (h : fX6_remove σ t a1 = some σ') : Met l yX6_remove (Cond.code yX6_remove cX6_remove 2 none :: gBig) ({ frames := 2, cells := 0, slots := 0, locals := 87 }) (gPc X σ [.ref (xN X + t), .int a1]) (gQv X σ') 0 0 (xA X) := by
  refine g_metv (cc := cX6_remove) (maxL := 2) (own := RX6) (by decide) rfl rfl (Nat.le_of_ble_eq_true rfl) ?_
  intro p ev s m args below meth c Q C G ret ls hl
  obtain ⟨⟨hx, hb, hml, hown, hts⟩, hK⟩ := id C
  have hl : lv_has ls 2 [(0, .ref (xN X + t)), (1, .int a1)] := hl
  unfold fX6_remove at h
  refine lv_iload_n hx hb dX6_remove_0 rfl (lv_at hl 1 rfl) ?_
  refine lv_if_lt (tgt := 12) hx hb dX6_remove_1 (by decide) (fun c1 => ?_) (fun c1 => ?_)
  · have h := g_it h c1
    exact ret dX6_remove_12 G (Option.some.inj h)
  · have h := g_if h c1
    refine lv_iload_n hx hb dX6_remove_4 rfl (lv_at hl 1 rfl) ?_
    refine lv_aload_n hx hb dX6_remove_5 rfl (lv_at hl 0 rfl) ?_
    refine gg6_3 C G ok.1 u_fl_RX6_26 dX6_remove_6 ?_
    refine lv_icmp_lt (tgt := 13) hx hb dX6_remove_9 (by decide) (fun c2 => ?_) (fun c2 => ?_)
    · have h := g_it h c2
      refine lv_aload_n hx hb dX6_remove_13 rfl (lv_at hl 0 rfl) ?_
      refine gg6_0 C G ok.1 ok.2.1.1 u_fl_RX6_14 dX6_remove_14 ?_
      refine lv_iload_n hx hb dX6_remove_17 rfl (lv_at hl 1 rfl) ?_
      refine lv_iconst (v := 1) hx hb dX6_remove_18 (by decide) ?_
      obtain ⟨σ4, e_σ4, h⟩ := g_bind h
      refine g_callv (g_runV (n := 2) (As := [.int a1, .int 1]) (rest := []) C G (mX5_cut l X σ σ4 (t + 1) a1 1 ok.2.2.1 e_σ4) ok.2.2.1.1.2 (gE_5 ok.2.2.1.1.1) rfl (g_goodV u_ml_RX6_51 u_im_yX5_cut u_se_yX5_cut u_in_RX5 u_co_yX5_cut) rfl rfl rfl (by decide +kernel) ⟨Nat.le_of_ble_eq_true rfl, Nat.le_of_ble_eq_true rfl⟩ rfl hl.1 rfl (Nat.le_of_ble_eq_true rfl) dX6_remove_19 ⟨Nat.zero_le _, Nat.zero_le _⟩) G (fun H locs G => ?_)
      refine lv_aload_n hx hb dX6_remove_22 rfl (lv_at hl 0 rfl) ?_
      refine gg6_1 C G ok.1 ok.2.1.2.1 u_fl_RX6_20 dX6_remove_23 ?_
      refine lv_iload_n hx hb dX6_remove_26 rfl (lv_at hl 1 rfl) ?_
      refine lv_bipush (v := 32) hx hb dX6_remove_27 (by decide) ?_
      refine lv_imul hx hb dX6_remove_29 ?_
      refine lv_bipush (v := 32) hx hb dX6_remove_30 (by decide) ?_
      obtain ⟨σ6, e_σ6, h⟩ := g_bind h
      refine g_callv (g_runV (n := 2) (As := [.int (a1 * 32), .int 32]) (rest := []) C G (mX5_cut l X σ4 σ6 (t + 3) (a1 * 32) 32 ok.2.2.2.1 e_σ6) ok.2.2.2.1.1.2 (gE_5 ok.2.2.2.1.1.1) rfl (g_goodV u_ml_RX6_51 u_im_yX5_cut u_se_yX5_cut u_in_RX5 u_co_yX5_cut) rfl rfl rfl (by decide +kernel) ⟨Nat.le_of_ble_eq_true rfl, Nat.le_of_ble_eq_true rfl⟩ rfl hl.1 rfl (Nat.le_of_ble_eq_true rfl) dX6_remove_32 ⟨Nat.zero_le _, Nat.zero_le _⟩) G (fun H locs G => ?_)
      refine lv_aload_n hx hb dX6_remove_35 rfl (lv_at hl 0 rfl) ?_
      refine gg6_2 C G ok.1 ok.2.1.2.2 u_fl_RX6_23 dX6_remove_36 ?_
      refine lv_iload_n hx hb dX6_remove_39 rfl (lv_at hl 1 rfl) ?_
      refine lv_bipush (v := 32) hx hb dX6_remove_40 (by decide) ?_
      refine lv_imul hx hb dX6_remove_42 ?_
      refine lv_bipush (v := 32) hx hb dX6_remove_43 (by decide) ?_
      obtain ⟨σ8, e_σ8, h⟩ := g_bind h
      refine g_callv (g_runV (n := 2) (As := [.int (a1 * 32), .int 32]) (rest := []) C G (mX5_cut l X σ6 σ8 (t + 5) (a1 * 32) 32 ok.2.2.2.2 e_σ8) ok.2.2.2.2.1.2 (gE_5 ok.2.2.2.2.1.1) rfl (g_goodV u_ml_RX6_51 u_im_yX5_cut u_se_yX5_cut u_in_RX5 u_co_yX5_cut) rfl rfl rfl (by decide +kernel) ⟨Nat.le_of_ble_eq_true rfl, Nat.le_of_ble_eq_true rfl⟩ rfl hl.1 rfl (Nat.le_of_ble_eq_true rfl) dX6_remove_45 ⟨Nat.zero_le _, Nat.zero_le _⟩) G (fun H locs G => ?_)
      refine lv_aload_n hx hb dX6_remove_48 rfl (lv_at hl 0 rfl) ?_
      refine lv_dup hx hb dX6_remove_49 rfl ?_
      refine gg6_3 C G ok.1 u_fl_RX6_26 dX6_remove_50 ?_
      refine lv_iconst (v := 1) hx hb dX6_remove_53 (by decide) ?_
      refine lv_isub hx hb dX6_remove_54 ?_
      obtain ⟨σ9, e_σ9, h⟩ := g_let h
      refine gp6_3 C G ok.1 u_fl_RX6_26 dX6_remove_55 (fun H locs G => ?_)
      rw [e_σ9] at G
      exact ret dX6_remove_58 G (Option.some.inj h)
    · have h := g_if h c2
      exact ret dX6_remove_12 G (Option.some.inj h)

def fX4_remove_48 (t : Nat) (a1 : Int32) : Nat → gM → Int32 → Option (gM)
  | 0, _, _ => none
  | n + 1, σ, x2 =>
    (if 12 ≤ x2 then
      some σ
    else
      ((fX5_get σ (t + 1) x2).bind fun v12 =>
      ((fX5_set σ (t + 5) v12 x2).bind fun σ14 =>
      (gl (x2 + 1) fun w15 =>
      fX4_remove_48 t a1 n σ14 w15))))

def fX4_remove (σ : gM) (t : Nat) (a1 : Int32) : Option (gM) :=
  ((fX5_cut σ (t + 1) a1 1).bind fun σ2 =>
  ((fX5_set σ2 (t + 1) 11 (-1)).bind fun σ4 =>
  ((fX5_cut σ4 (t + 3) a1 1).bind fun σ6 =>
  ((fX5_set σ6 (t + 3) 11 0).bind fun σ8 =>
  ((fX5_setAll σ8 (t + 5) (-1)).bind fun σ10 =>
  fX4_remove_48 t a1 gF σ10 0)))))
set_option maxHeartbeats 4000000 in
set_option maxRecDepth 100000 in
theorem mX4_remove (l : Launch) (X : gX) (σ σ' : gM) (t : Nat) (a1 : Int32) (ok : gok4 X t) (h : fX4_remove σ t a1 = some σ') : Met l yX4_remove (Cond.code yX4_remove cX4_remove 3 none :: gBig) ({ frames := 2, cells := 0, slots := 0, locals := 87 }) (gPc X σ [.ref (xN X + t), .int a1]) (gQv X σ') 0 0 (xA X) := by
  refine g_metv (cc := cX4_remove) (maxL := 3) (own := RX4) (by decide) rfl rfl (Nat.le_of_ble_eq_true rfl) ?_
  intro p ev s m args below meth c Q C G ret ls hl
  obtain ⟨⟨hx, hb, hml, hown, hts⟩, hK⟩ := id C
  have hl : lv_has ls 3 [(0, .ref (xN X + t)), (1, .int a1)] := hl
  have L48 : ∀ (n : Nat) (H : Heap) (locs : List Loc) (ls : Array Slot) (σ : gM) (x2 : Int32), gG X σ s H locs → lv_has ls 3 [(0, .ref (xN X + t)), (2, .int x2)] → fX4_remove_48 t a1 n σ x2 = some σ' → W p l ev ({ frames := 2, cells := 0, slots := 0, locals := 87 }) s m args below meth c H locs 0 0 Q (F0 m 48 ls []) := by
    intro n
    induction n with
    | zero =>
      intro H locs ls σ x2 G hl h
      rw [fX4_remove_48] at h
      cases h
    | succ n ih =>
      intro H locs ls σ x2 G hl h
      rw [fX4_remove_48] at h
      refine lv_iload_n hx hb dX4_remove_48 rfl (lv_at hl 1 rfl) ?_
      refine lv_bipush (v := 12) hx hb dX4_remove_49 (by decide) ?_
      refine lv_icmp_ge (tgt := 76) hx hb dX4_remove_51 (by decide) (fun c11 => ?_) (fun c11 => ?_)
      · have h := g_it h c11
        exact ret dX4_remove_76 G (Option.some.inj h)
      · have h := g_if h c11
        refine lv_aload_n hx hb dX4_remove_54 rfl (lv_at hl 0 rfl) ?_
        refine gg4_2 C G ok.1 ok.2.1.2.2 u_fl_RX4_23 dX4_remove_55 ?_
        refine lv_aload_n hx hb dX4_remove_58 rfl (lv_at hl 0 rfl) ?_
        refine gg4_0 C G ok.1 ok.2.1.1 u_fl_RX4_14 dX4_remove_59 ?_
        refine lv_iload_n hx hb dX4_remove_62 rfl (lv_at hl 1 rfl) ?_
        obtain ⟨v12, e_v12, h⟩ := g_bind h
        refine g_calli (g_runV (n := 1) (As := [.int x2]) (rest := [.ref (xN X + (t + 5))]) C G (mX5_get l X σ (t + 1) x2 v12 ok.2.2.1 e_v12) ok.2.2.1.1.2 (gE_5 ok.2.2.1.1.1) rfl (g_goodV u_ml_RX4_37 u_im_yX5_get u_se_yX5_get u_in_RX5 u_co_yX5_get) rfl rfl rfl (by decide +kernel) ⟨Nat.le_of_ble_eq_true rfl, Nat.le_of_ble_eq_true rfl⟩ rfl hl.1 rfl (Nat.le_of_ble_eq_true rfl) dX4_remove_63 ⟨Nat.zero_le _, Nat.zero_le _⟩) G (fun H locs G => ?_)
        refine lv_iload_n hx hb dX4_remove_66 rfl (lv_at hl 1 rfl) ?_
        obtain ⟨σ14, e_σ14, h⟩ := g_bind h
        refine g_callv (g_runV (n := 2) (As := [.int v12, .int x2]) (rest := []) C G (mX5_set l X σ σ14 (t + 5) v12 x2 ok.2.2.2.2 e_σ14) ok.2.2.2.2.1.2 (gE_5 ok.2.2.2.2.1.1) rfl (g_goodV u_ml_RX4_44 u_im_yX5_set u_se_yX5_set u_in_RX5 u_co_yX5_set) rfl rfl rfl (by decide +kernel) ⟨Nat.le_of_ble_eq_true rfl, Nat.le_of_ble_eq_true rfl⟩ rfl hl.1 rfl (Nat.le_of_ble_eq_true rfl) dX4_remove_67 ⟨Nat.zero_le _, Nat.zero_le _⟩) G (fun H locs G => ?_)
        obtain ⟨w15, e_w15⟩ : ∃ y : Int32, y = x2 + 1 := ⟨_, rfl⟩
        have h := g_let2 e_w15 h
        refine lv_iinc (v := w15) (lv' := [(2, .int w15), (0, .ref (xN X + t))]) hx hb dX4_remove_70 hl (k := 1) rfl (by rw [e_w15]; rfl) (by decide) rfl (fun ls hl => ?_)
        refine lv_goto (tgt := 48) hx hb dX4_remove_73 (by decide) ?_
        exact ih _ _ _ σ14 w15 G (lv_sub hl [1, 0] rfl) h
  unfold fX4_remove at h
  refine lv_aload_n hx hb dX4_remove_0 rfl (lv_at hl 0 rfl) ?_
  refine gg4_0 C G ok.1 ok.2.1.1 u_fl_RX4_14 dX4_remove_1 ?_
  refine lv_iload_n hx hb dX4_remove_4 rfl (lv_at hl 1 rfl) ?_
  refine lv_iconst (v := 1) hx hb dX4_remove_5 (by decide) ?_
  obtain ⟨σ2, e_σ2, h⟩ := g_bind h
  refine g_callv (g_runV (n := 2) (As := [.int a1, .int 1]) (rest := []) C G (mX5_cut l X σ σ2 (t + 1) a1 1 ok.2.2.1 e_σ2) ok.2.2.1.1.2 (gE_5 ok.2.2.1.1.1) rfl (g_goodV u_ml_RX4_47 u_im_yX5_cut u_se_yX5_cut u_in_RX5 u_co_yX5_cut) rfl rfl rfl (by decide +kernel) ⟨Nat.le_of_ble_eq_true rfl, Nat.le_of_ble_eq_true rfl⟩ rfl hl.1 rfl (Nat.le_of_ble_eq_true rfl) dX4_remove_6 ⟨Nat.zero_le _, Nat.zero_le _⟩) G (fun H locs G => ?_)
  refine lv_aload_n hx hb dX4_remove_9 rfl (lv_at hl 0 rfl) ?_
  refine gg4_0 C G ok.1 ok.2.1.1 u_fl_RX4_14 dX4_remove_10 ?_
  refine lv_bipush (v := 11) hx hb dX4_remove_13 (by decide) ?_
  refine lv_iconst (v := (-1)) hx hb dX4_remove_15 (by decide) ?_
  obtain ⟨σ4, e_σ4, h⟩ := g_bind h
  refine g_callv (g_runV (n := 2) (As := [.int 11, .int (-1)]) (rest := []) C G (mX5_set l X σ2 σ4 (t + 1) 11 (-1) ok.2.2.1 e_σ4) ok.2.2.1.1.2 (gE_5 ok.2.2.1.1.1) rfl (g_goodV u_ml_RX4_44 u_im_yX5_set u_se_yX5_set u_in_RX5 u_co_yX5_set) rfl rfl rfl (by decide +kernel) ⟨Nat.le_of_ble_eq_true rfl, Nat.le_of_ble_eq_true rfl⟩ rfl hl.1 rfl (Nat.le_of_ble_eq_true rfl) dX4_remove_16 ⟨Nat.zero_le _, Nat.zero_le _⟩) G (fun H locs G => ?_)
  refine lv_aload_n hx hb dX4_remove_19 rfl (lv_at hl 0 rfl) ?_
  refine gg4_1 C G ok.1 ok.2.1.2.1 u_fl_RX4_20 dX4_remove_20 ?_
  refine lv_iload_n hx hb dX4_remove_23 rfl (lv_at hl 1 rfl) ?_
  refine lv_iconst (v := 1) hx hb dX4_remove_24 (by decide) ?_
  obtain ⟨σ6, e_σ6, h⟩ := g_bind h
  refine g_callv (g_runV (n := 2) (As := [.int a1, .int 1]) (rest := []) C G (mX5_cut l X σ4 σ6 (t + 3) a1 1 ok.2.2.2.1 e_σ6) ok.2.2.2.1.1.2 (gE_5 ok.2.2.2.1.1.1) rfl (g_goodV u_ml_RX4_47 u_im_yX5_cut u_se_yX5_cut u_in_RX5 u_co_yX5_cut) rfl rfl rfl (by decide +kernel) ⟨Nat.le_of_ble_eq_true rfl, Nat.le_of_ble_eq_true rfl⟩ rfl hl.1 rfl (Nat.le_of_ble_eq_true rfl) dX4_remove_25 ⟨Nat.zero_le _, Nat.zero_le _⟩) G (fun H locs G => ?_)
  refine lv_aload_n hx hb dX4_remove_28 rfl (lv_at hl 0 rfl) ?_
  refine gg4_1 C G ok.1 ok.2.1.2.1 u_fl_RX4_20 dX4_remove_29 ?_
  refine lv_bipush (v := 11) hx hb dX4_remove_32 (by decide) ?_
  refine lv_iconst (v := 0) hx hb dX4_remove_34 (by decide) ?_
  obtain ⟨σ8, e_σ8, h⟩ := g_bind h
  refine g_callv (g_runV (n := 2) (As := [.int 11, .int 0]) (rest := []) C G (mX5_set l X σ6 σ8 (t + 3) 11 0 ok.2.2.2.1 e_σ8) ok.2.2.2.1.1.2 (gE_5 ok.2.2.2.1.1.1) rfl (g_goodV u_ml_RX4_44 u_im_yX5_set u_se_yX5_set u_in_RX5 u_co_yX5_set) rfl rfl rfl (by decide +kernel) ⟨Nat.le_of_ble_eq_true rfl, Nat.le_of_ble_eq_true rfl⟩ rfl hl.1 rfl (Nat.le_of_ble_eq_true rfl) dX4_remove_35 ⟨Nat.zero_le _, Nat.zero_le _⟩) G (fun H locs G => ?_)
  refine lv_aload_n hx hb dX4_remove_38 rfl (lv_at hl 0 rfl) ?_
  refine gg4_2 C G ok.1 ok.2.1.2.2 u_fl_RX4_23 dX4_remove_39 ?_
  refine lv_iconst (v := (-1)) hx hb dX4_remove_42 (by decide) ?_
  obtain ⟨σ10, e_σ10, h⟩ := g_bind h
  refine g_callv (g_runV (n := 1) (As := [.int (-1)]) (rest := []) C G (mX5_setAll l X σ8 σ10 (t + 5) (-1) ok.2.2.2.2 e_σ10) ok.2.2.2.2.1.2 (gE_5 ok.2.2.2.2.1.1) rfl (g_goodV u_ml_RX4_41 u_im_yX5_setAll u_se_yX5_setAll u_in_RX5 u_co_yX5_setAll) rfl rfl rfl (by decide +kernel) ⟨Nat.le_of_ble_eq_true rfl, Nat.le_of_ble_eq_true rfl⟩ rfl hl.1 rfl (Nat.le_of_ble_eq_true rfl) dX4_remove_43 ⟨Nat.zero_le _, Nat.zero_le _⟩) G (fun H locs G => ?_)
  refine lv_iconst (v := 0) hx hb dX4_remove_46 (by decide) ?_
  refine lv_istore_n (lv' := [(2, .int 0), (0, .ref (xN X + t)), (1, .int a1)]) hx hb dX4_remove_47 rfl hl (by decide) rfl (fun ls hl => ?_)
  exact L48  gF _ _ _ σ10 0 G (lv_sub hl [1, 0] rfl) h

def fX0_remove (σ : gM) (t : Nat) (a1 : Int32) : Option (gM) :=
  ((fX6_remove σ (t + 1) a1).bind fun σ2 =>
  ((fX4_remove σ2 (t + 8) a1).bind fun σ4 =>
  some σ4))
set_option maxHeartbeats 4000000 in
set_option maxRecDepth 100000 in
theorem mX0_remove (l : Launch) (X : gX) (σ σ' : gM) (t : Nat) (a1 : Int32) (ok : gok0 X t) (h : fX0_remove σ t a1 = some σ') : Met l yX0_remove (Cond.code yX0_remove cX0_remove 2 none :: gBig) ({ frames := 3, cells := 0, slots := 0, locals := 109 }) (gPc X σ [.ref (xN X + t), .int a1]) (gQv X σ') 0 0 (xA X) := by
  refine g_metv (cc := cX0_remove) (maxL := 2) (own := RX0) (by decide) rfl rfl (Nat.le_of_ble_eq_true rfl) ?_
  intro p ev s m args below meth c Q C G ret ls hl
  obtain ⟨⟨hx, hb, hml, hown, hts⟩, hK⟩ := id C
  have hl : lv_has ls 2 [(0, .ref (xN X + t)), (1, .int a1)] := hl
  unfold fX0_remove at h
  refine lv_aload_n hx hb dX0_remove_0 rfl (lv_at hl 0 rfl) ?_
  refine gg0_0 C G ok.1 ok.2.1.1 u_fl_RX0_12 dX0_remove_1 ?_
  refine lv_iload_n hx hb dX0_remove_4 rfl (lv_at hl 1 rfl) ?_
  obtain ⟨σ2, e_σ2, h⟩ := g_bind h
  refine g_callv (g_runV (n := 1) (As := [.int a1]) (rest := []) C G (mX6_remove l X σ σ2 (t + 1) a1 ok.2.2.1 e_σ2) ok.2.2.1.1.2 (gE_6 ok.2.2.1.1.1) rfl (g_goodV u_ml_RX0_32 u_im_yX6_remove u_se_yX6_remove u_in_RX6 u_co_yX6_remove) rfl rfl rfl (by decide +kernel) ⟨Nat.le_of_ble_eq_true rfl, Nat.le_of_ble_eq_true rfl⟩ rfl hl.1 rfl (Nat.le_of_ble_eq_true rfl) dX0_remove_5 ⟨Nat.zero_le _, Nat.zero_le _⟩) G (fun H locs G => ?_)
  refine lv_aload_n hx hb dX0_remove_8 rfl (lv_at hl 0 rfl) ?_
  refine gg0_1 C G ok.1 ok.2.1.2 u_fl_RX0_21 dX0_remove_9 ?_
  refine lv_iload_n hx hb dX0_remove_12 rfl (lv_at hl 1 rfl) ?_
  obtain ⟨σ4, e_σ4, h⟩ := g_bind h
  refine g_callv (g_runV (n := 1) (As := [.int a1]) (rest := []) C G (mX4_remove l X σ2 σ4 (t + 8) a1 ok.2.2.2 e_σ4) ok.2.2.2.1.2 (gE_4 ok.2.2.2.1.1) rfl (g_goodV u_ml_RX0_36 u_im_yX4_remove u_se_yX4_remove u_in_RX4 u_co_yX4_remove) rfl rfl rfl (by decide +kernel) ⟨Nat.le_of_ble_eq_true rfl, Nat.le_of_ble_eq_true rfl⟩ rfl hl.1 rfl (Nat.le_of_ble_eq_true rfl) dX0_remove_13 ⟨Nat.zero_le _, Nat.zero_le _⟩) G (fun H locs G => ?_)
  exact ret dX0_remove_16 G (Option.some.inj h)

def fX8_removeScrap (σ : gM) (t : Nat) (a1 : Int32) : Option (Int32 × gM) :=
  ((fX8_isScrap σ t a1).bind fun v1 =>
  (if v1 = 0 then
    some ((-1001), σ)
  else
    ((fX3_keep σ (t + 31) (t + 1)).bind fun σ4 =>
    ((fX0_remove σ4 (t + 1) a1).bind fun σ6 =>
    ((fX6_size σ6 ((t + 1) + 1)).bind fun v7 =>
    some (v7, σ6))))))
set_option maxHeartbeats 4000000 in
set_option maxRecDepth 100000 in
theorem mX8_removeScrap (l : Launch) (X : gX) (σ σ' : gM) (t : Nat) (a1 : Int32) (r : Int32) (ok : gok8 X t) (h : fX8_removeScrap σ t a1 = some (r, σ')) : Met l yX8_removeScrap (Cond.code yX8_removeScrap cX8_removeScrap 2 (some .int) :: gBig) ({ frames := 5, cells := 0, slots := 0, locals := 150 }) (gPc X σ [.ref (xN X + t), .int a1]) (gQi X σ' r) 0 0 (xA X) := by
  refine g_meti (cc := cX8_removeScrap) (maxL := 2) (own := RX8) (by decide) rfl rfl (Nat.le_of_ble_eq_true rfl) ?_
  intro p ev s m args below meth c Q C G ret ls hl
  obtain ⟨⟨hx, hb, hml, hown, hts⟩, hK⟩ := id C
  have hl : lv_has ls 2 [(0, .ref (xN X + t)), (1, .int a1)] := hl
  unfold fX8_removeScrap at h
  refine lv_aload_n hx hb dX8_removeScrap_0 rfl (lv_at hl 0 rfl) ?_
  refine lv_iload_n hx hb dX8_removeScrap_1 rfl (lv_at hl 1 rfl) ?_
  obtain ⟨v1, e_v1, h⟩ := g_bind h
  refine g_calli (g_runV (n := 1) (As := [.int a1]) (rest := []) C G (mX8_isScrap l X σ t a1 v1 ok e_v1) ok.1.2 (gE_8 ok.1.1) rfl (g_goodV u_ml_RX8_104 u_im_yX8_isScrap u_se_yX8_isScrap u_in_RX8 u_co_yX8_isScrap) rfl rfl rfl (by decide +kernel) ⟨Nat.le_of_ble_eq_true rfl, Nat.le_of_ble_eq_true rfl⟩ rfl hl.1 rfl (Nat.le_of_ble_eq_true rfl) dX8_removeScrap_2 ⟨Nat.zero_le _, Nat.zero_le _⟩) G (fun H locs G => ?_)
  refine lv_if_ne (tgt := 12) hx hb dX8_removeScrap_5 (by decide) (fun c2 => ?_) (fun c2 => ?_)
  · have h := g_if h c2
    refine lv_aload_n hx hb dX8_removeScrap_12 rfl (lv_at hl 0 rfl) ?_
    refine gg8_2 C G ok.1 ok.2.1.2.2.1 u_fl_RX8_22 dX8_removeScrap_13 ?_
    refine lv_aload_n hx hb dX8_removeScrap_16 rfl (lv_at hl 0 rfl) ?_
    refine gg8_0 C G ok.1 ok.2.1.1 u_fl_RX8_10 dX8_removeScrap_17 ?_
    obtain ⟨σ4, e_σ4, h⟩ := g_bind h
    refine g_callv (g_runV (n := 1) (As := [.ref (xN X + (t + 1))]) (rest := []) C G (mX3_keep l X σ σ4 (t + 31) (t + 1) ok.2.2.2.2.1 ok.2.2.1 e_σ4) ok.2.2.2.2.1.1.2 (gE_3 ok.2.2.2.2.1.1.1) rfl (g_goodV u_ml_RX8_55 u_im_yX3_keep u_se_yX3_keep u_in_RX3 u_co_yX3_keep) rfl rfl rfl (by decide +kernel) ⟨Nat.le_of_ble_eq_true rfl, Nat.le_of_ble_eq_true rfl⟩ rfl hl.1 rfl (Nat.le_of_ble_eq_true rfl) dX8_removeScrap_20 ⟨Nat.zero_le _, Nat.zero_le _⟩) G (fun H locs G => ?_)
    refine lv_aload_n hx hb dX8_removeScrap_23 rfl (lv_at hl 0 rfl) ?_
    refine gg8_0 C G ok.1 ok.2.1.1 u_fl_RX8_10 dX8_removeScrap_24 ?_
    refine lv_iload_n hx hb dX8_removeScrap_27 rfl (lv_at hl 1 rfl) ?_
    obtain ⟨σ6, e_σ6, h⟩ := g_bind h
    refine g_callv (g_runV (n := 1) (As := [.int a1]) (rest := []) C G (mX0_remove l X σ4 σ6 (t + 1) a1 ok.2.2.1 e_σ6) ok.2.2.1.1.2 (gE_0 ok.2.2.1.1.1) rfl (g_goodV u_ml_RX8_107 u_im_yX0_remove u_se_yX0_remove u_in_RX0 u_co_yX0_remove) rfl rfl rfl (by decide +kernel) ⟨Nat.le_of_ble_eq_true rfl, Nat.le_of_ble_eq_true rfl⟩ rfl hl.1 rfl (Nat.le_of_ble_eq_true rfl) dX8_removeScrap_28 ⟨Nat.zero_le _, Nat.zero_le _⟩) G (fun H locs G => ?_)
    refine lv_aload_n hx hb dX8_removeScrap_31 rfl (lv_at hl 0 rfl) ?_
    refine gg8_0 C G ok.1 ok.2.1.1 u_fl_RX8_10 dX8_removeScrap_32 ?_
    refine gn0_0 C G ok.2.2.1.1 ok.2.2.1.2.1.1 (List.mem_of_getElem? (i := 1) rfl) dX8_removeScrap_35 ?_
    obtain ⟨v7, e_v7, h⟩ := g_bind h
    refine g_calli (g_runV (n := 0) (As := []) (rest := []) C G (mX6_size l X σ6 ((t + 1) + 1) v7 ok.2.2.1.2.2.1 e_v7) ok.2.2.1.2.2.1.1.2 (gE_6 ok.2.2.1.2.2.1.1.1) rfl (g_goodV u_ml_RX8_77 u_im_yX6_size u_se_yX6_size u_in_RX6 u_co_yX6_size) rfl rfl rfl (by decide +kernel) ⟨Nat.le_of_ble_eq_true rfl, Nat.le_of_ble_eq_true rfl⟩ rfl hl.1 rfl (Nat.le_of_ble_eq_true rfl) dX8_removeScrap_38 ⟨Nat.zero_le _, Nat.zero_le _⟩) G (fun H locs G => ?_)
    exact ret dX8_removeScrap_41 rfl G (Prod.mk.inj (Option.some.inj h))
  · have h := g_it h c2
    refine lv_sipush (v := (-1001)) hx hb dX8_removeScrap_8 (by decide) ?_
    exact ret dX8_removeScrap_11 rfl G (Prod.mk.inj (Option.some.inj h))

def fX6_kind (σ : gM) (t : Nat) (a1 : Int32) : Option (Int32) :=
  ((fX5_get σ (t + 1) a1).bind fun v1 =>
  some v1)
set_option maxHeartbeats 4000000 in
set_option maxRecDepth 100000 in
theorem mX6_kind (l : Launch) (X : gX) (σ : gM) (t : Nat) (a1 : Int32) (r : Int32) (ok : gok6 X t) (h : fX6_kind σ t a1 = some r) : Met l yX6_kind (Cond.code yX6_kind cX6_kind 2 (some .int) :: gBig) ({ frames := 1, cells := 0, slots := 0, locals := 21 }) (gPc X σ [.ref (xN X + t), .int a1]) (gQi X σ r) 0 0 (xA X) := by
  refine g_meti (cc := cX6_kind) (maxL := 2) (own := RX6) (by decide) rfl rfl (Nat.le_of_ble_eq_true rfl) ?_
  intro p ev s m args below meth c Q C G ret ls hl
  obtain ⟨⟨hx, hb, hml, hown, hts⟩, hK⟩ := id C
  have hl : lv_has ls 2 [(0, .ref (xN X + t)), (1, .int a1)] := hl
  unfold fX6_kind at h
  refine lv_aload_n hx hb dX6_kind_0 rfl (lv_at hl 0 rfl) ?_
  refine gg6_0 C G ok.1 ok.2.1.1 u_fl_RX6_14 dX6_kind_1 ?_
  refine lv_iload_n hx hb dX6_kind_4 rfl (lv_at hl 1 rfl) ?_
  obtain ⟨v1, e_v1, h⟩ := g_bind h
  refine g_calli (g_runV (n := 1) (As := [.int a1]) (rest := []) C G (mX5_get l X σ (t + 1) a1 v1 ok.2.2.1 e_v1) ok.2.2.1.1.2 (gE_5 ok.2.2.1.1.1) rfl (g_goodV u_ml_RX6_30 u_im_yX5_get u_se_yX5_get u_in_RX5 u_co_yX5_get) rfl rfl rfl (by decide +kernel) ⟨Nat.le_of_ble_eq_true rfl, Nat.le_of_ble_eq_true rfl⟩ rfl hl.1 rfl (Nat.le_of_ble_eq_true rfl) dX6_kind_5 ⟨Nat.zero_le _, Nat.zero_le _⟩) G (fun H locs G => ?_)
  exact ret dX6_kind_8 rfl G ⟨Option.some.inj h, rfl⟩

def fX4_orientationOf (σ : gM) (t : Nat) (a1 : Int32) : Option (Int32) :=
  ((fX5_get σ (t + 3) a1).bind fun v1 =>
  some v1)
set_option maxHeartbeats 4000000 in
set_option maxRecDepth 100000 in
theorem mX4_orientationOf (l : Launch) (X : gX) (σ : gM) (t : Nat) (a1 : Int32) (r : Int32) (ok : gok4 X t) (h : fX4_orientationOf σ t a1 = some r) : Met l yX4_orientationOf (Cond.code yX4_orientationOf cX4_orientationOf 2 (some .int) :: gBig) ({ frames := 1, cells := 0, slots := 0, locals := 21 }) (gPc X σ [.ref (xN X + t), .int a1]) (gQi X σ r) 0 0 (xA X) := by
  refine g_meti (cc := cX4_orientationOf) (maxL := 2) (own := RX4) (by decide) rfl rfl (Nat.le_of_ble_eq_true rfl) ?_
  intro p ev s m args below meth c Q C G ret ls hl
  obtain ⟨⟨hx, hb, hml, hown, hts⟩, hK⟩ := id C
  have hl : lv_has ls 2 [(0, .ref (xN X + t)), (1, .int a1)] := hl
  unfold fX4_orientationOf at h
  refine lv_aload_n hx hb dX4_orientationOf_0 rfl (lv_at hl 0 rfl) ?_
  refine gg4_1 C G ok.1 ok.2.1.2.1 u_fl_RX4_20 dX4_orientationOf_1 ?_
  refine lv_iload_n hx hb dX4_orientationOf_4 rfl (lv_at hl 1 rfl) ?_
  obtain ⟨v1, e_v1, h⟩ := g_bind h
  refine g_calli (g_runV (n := 1) (As := [.int a1]) (rest := []) C G (mX5_get l X σ (t + 3) a1 v1 ok.2.2.2.1 e_v1) ok.2.2.2.1.1.2 (gE_5 ok.2.2.2.1.1.1) rfl (g_goodV u_ml_RX4_37 u_im_yX5_get u_se_yX5_get u_in_RX5 u_co_yX5_get) rfl rfl rfl (by decide +kernel) ⟨Nat.le_of_ble_eq_true rfl, Nat.le_of_ble_eq_true rfl⟩ rfl hl.1 rfl (Nat.le_of_ble_eq_true rfl) dX4_orientationOf_5 ⟨Nat.zero_le _, Nat.zero_le _⟩) G (fun H locs G => ?_)
  exact ret dX4_orientationOf_8 rfl G ⟨Option.some.inj h, rfl⟩

def fX4_placeOf (σ : gM) (t : Nat) (a1 : Int32) : Option (Int32) :=
  ((fX5_get σ (t + 1) a1).bind fun v1 =>
  some v1)
set_option maxHeartbeats 4000000 in
set_option maxRecDepth 100000 in
theorem mX4_placeOf (l : Launch) (X : gX) (σ : gM) (t : Nat) (a1 : Int32) (r : Int32) (ok : gok4 X t) (h : fX4_placeOf σ t a1 = some r) : Met l yX4_placeOf (Cond.code yX4_placeOf cX4_placeOf 2 (some .int) :: gBig) ({ frames := 1, cells := 0, slots := 0, locals := 21 }) (gPc X σ [.ref (xN X + t), .int a1]) (gQi X σ r) 0 0 (xA X) := by
  refine g_meti (cc := cX4_placeOf) (maxL := 2) (own := RX4) (by decide) rfl rfl (Nat.le_of_ble_eq_true rfl) ?_
  intro p ev s m args below meth c Q C G ret ls hl
  obtain ⟨⟨hx, hb, hml, hown, hts⟩, hK⟩ := id C
  have hl : lv_has ls 2 [(0, .ref (xN X + t)), (1, .int a1)] := hl
  unfold fX4_placeOf at h
  refine lv_aload_n hx hb dX4_placeOf_0 rfl (lv_at hl 0 rfl) ?_
  refine gg4_0 C G ok.1 ok.2.1.1 u_fl_RX4_14 dX4_placeOf_1 ?_
  refine lv_iload_n hx hb dX4_placeOf_4 rfl (lv_at hl 1 rfl) ?_
  obtain ⟨v1, e_v1, h⟩ := g_bind h
  refine g_calli (g_runV (n := 1) (As := [.int a1]) (rest := []) C G (mX5_get l X σ (t + 1) a1 v1 ok.2.2.1 e_v1) ok.2.2.1.1.2 (gE_5 ok.2.2.1.1.1) rfl (g_goodV u_ml_RX4_37 u_im_yX5_get u_se_yX5_get u_in_RX5 u_co_yX5_get) rfl rfl rfl (by decide +kernel) ⟨Nat.le_of_ble_eq_true rfl, Nat.le_of_ble_eq_true rfl⟩ rfl hl.1 rfl (Nat.le_of_ble_eq_true rfl) dX4_placeOf_5 ⟨Nat.zero_le _, Nat.zero_le _⟩) G (fun H locs G => ?_)
  exact ret dX4_placeOf_8 rfl G ⟨Option.some.inj h, rfl⟩

def fX4_places (σ : gM) (t : Nat) : Option (Int32) :=
  some ((σ t 3) * (σ t 4))
set_option maxHeartbeats 4000000 in
set_option maxRecDepth 100000 in
theorem mX4_places (l : Launch) (X : gX) (σ : gM) (t : Nat) (r : Int32) (ok : gok4 X t) (h : fX4_places σ t = some r) : Met l yX4_places (Cond.code yX4_places cX4_places 1 (some .int) :: gBig) ({ frames := 0, cells := 0, slots := 0, locals := 0 }) (gPc X σ [.ref (xN X + t)]) (gQi X σ r) 0 0 (xA X) := by
  refine g_meti (cc := cX4_places) (maxL := 1) (own := RX4) (by decide) rfl rfl (Nat.le_of_ble_eq_true rfl) ?_
  intro p ev s m args below meth c Q C G ret ls hl
  obtain ⟨⟨hx, hb, hml, hown, hts⟩, hK⟩ := id C
  have hl : lv_has ls 1 [(0, .ref (xN X + t))] := hl
  unfold fX4_places at h
  refine lv_aload_n hx hb dX4_places_0 rfl (lv_at hl 0 rfl) ?_
  refine gg4_3 C G ok.1 u_fl_RX4_30 dX4_places_1 ?_
  refine lv_aload_n hx hb dX4_places_4 rfl (lv_at hl 0 rfl) ?_
  refine gg4_4 C G ok.1 u_fl_RX4_34 dX4_places_5 ?_
  refine lv_imul hx hb dX4_places_8 ?_
  exact ret dX4_places_9 rfl G ⟨Option.some.inj h, rfl⟩

def fX4_behind (σ : gM) (t : Nat) (a1 : Int32) (a2 : Int32) : Option (Int32) :=
  (if (σ t 3) ≤ 0 then
    (if a2 = 0 then
      (if a1 < (σ t 3) then
        some (-1)
      else
        some (a1 - (σ t 3)))
    else if a2 = 1 then
      (if (σ t 3) ≤ (0 + 1) then
        some (-1)
      else
        some (a1 + 1))
    else if a2 = 2 then
      ((fX4_places σ t).bind fun v7 =>
      (if v7 ≤ (a1 + (σ t 3)) then
        some (-1)
      else
        some (a1 + (σ t 3))))
    else 
      some (-1))
  else
    (if ¬ (σ t 3) = 0 then
    (gl (a1 - a1 / (σ t 3) * (σ t 3)) fun w11 =>
    (if a2 = 0 then
      (if a1 < (σ t 3) then
        some (-1)
      else
        some (a1 - (σ t 3)))
    else if a2 = 1 then
      (if (σ t 3) ≤ (w11 + 1) then
        some (-1)
      else
        some (a1 + 1))
    else if a2 = 2 then
      ((fX4_places σ t).bind fun v17 =>
      (if v17 ≤ (a1 + (σ t 3)) then
        some (-1)
      else
        some (a1 + (σ t 3))))
    else 
      (if w11 ≤ 0 then
        some (-1)
      else
        some (a1 - 1))))
    else none))
set_option maxHeartbeats 4000000 in
set_option maxRecDepth 100000 in
theorem mX4_behind (l : Launch) (X : gX) (σ : gM) (t : Nat) (a1 : Int32) (a2 : Int32) (r : Int32) (ok : gok4 X t) (h : fX4_behind σ t a1 a2 = some r) : Met l yX4_behind (Cond.code yX4_behind cX4_behind 4 (some .int) :: gBig) ({ frames := 1, cells := 0, slots := 0, locals := 20 }) (gPc X σ [.ref (xN X + t), .int a1, .int a2]) (gQi X σ r) 0 0 (xA X) := by
  refine g_meti (cc := cX4_behind) (maxL := 4) (own := RX4) (by decide) rfl rfl (Nat.le_of_ble_eq_true rfl) ?_
  intro p ev s m args below meth c Q C G ret ls hl
  obtain ⟨⟨hx, hb, hml, hown, hts⟩, hK⟩ := id C
  have hl : lv_has ls 4 [(0, .ref (xN X + t)), (1, .int a1), (2, .int a2)] := hl
  unfold fX4_behind at h
  refine lv_aload_n hx hb dX4_behind_0 rfl (lv_at hl 0 rfl) ?_
  refine gg4_3 C G ok.1 u_fl_RX4_30 dX4_behind_1 ?_
  refine lv_if_le (tgt := 16) hx hb dX4_behind_4 (by decide) (fun c1 => ?_) (fun c1 => ?_)
  · have h := g_it h c1
    refine lv_iconst (v := 0) hx hb dX4_behind_16 (by decide) ?_
    refine lv_istore_n (lv' := [(3, .int 0), (0, .ref (xN X + t)), (1, .int a1), (2, .int a2)]) hx hb dX4_behind_17 rfl hl (by decide) rfl (fun ls hl => ?_)
    refine lv_iload_n hx hb dX4_behind_18 rfl (lv_at hl 3 rfl) ?_
    by_cases c2 : a2 = 0
    · have h := g_it h c2
      refine lv_tableIn (off := 25) (tgt := 44) hx hb dX4_behind_19 (by rw [c2]; decide) (by rw [c2]; decide) (by rw [c2]; rfl) (by decide) ?_
      refine lv_iload_n hx hb dX4_behind_44 rfl (lv_at hl 2 rfl) ?_
      refine lv_aload_n hx hb dX4_behind_45 rfl (lv_at hl 1 rfl) ?_
      refine gg4_3 C G ok.1 u_fl_RX4_30 dX4_behind_46 ?_
      refine lv_icmp_lt (tgt := 61) hx hb dX4_behind_49 (by decide) (fun c3 => ?_) (fun c3 => ?_)
      · have h := g_it h c3
        refine lv_iconst (v := (-1)) hx hb dX4_behind_61 (by decide) ?_
        exact ret dX4_behind_62 rfl G ⟨Option.some.inj h, rfl⟩
      · have h := g_if h c3
        refine lv_iload_n hx hb dX4_behind_52 rfl (lv_at hl 2 rfl) ?_
        refine lv_aload_n hx hb dX4_behind_53 rfl (lv_at hl 1 rfl) ?_
        refine gg4_3 C G ok.1 u_fl_RX4_30 dX4_behind_54 ?_
        refine lv_isub hx hb dX4_behind_57 ?_
        refine lv_goto (tgt := 62) hx hb dX4_behind_58 (by decide) ?_
        exact ret dX4_behind_62 rfl G ⟨Option.some.inj h, rfl⟩
    have h := g_if h c2
    by_cases c4 : a2 = 1
    · have h := g_it h c4
      refine lv_tableIn (off := 44) (tgt := 63) hx hb dX4_behind_19 (by rw [c4]; decide) (by rw [c4]; decide) (by rw [c4]; rfl) (by decide) ?_
      refine lv_iload_n hx hb dX4_behind_63 rfl (lv_at hl 0 rfl) ?_
      refine lv_iconst (v := 1) hx hb dX4_behind_64 (by decide) ?_
      refine lv_iadd hx hb dX4_behind_65 ?_
      refine lv_aload_n hx hb dX4_behind_66 rfl (lv_at hl 1 rfl) ?_
      refine gg4_3 C G ok.1 u_fl_RX4_30 dX4_behind_67 ?_
      refine lv_icmp_ge (tgt := 79) hx hb dX4_behind_70 (by decide) (fun c5 => ?_) (fun c5 => ?_)
      · have h := g_it h c5
        refine lv_iconst (v := (-1)) hx hb dX4_behind_79 (by decide) ?_
        exact ret dX4_behind_80 rfl G ⟨Option.some.inj h, rfl⟩
      · have h := g_if h c5
        refine lv_iload_n hx hb dX4_behind_73 rfl (lv_at hl 2 rfl) ?_
        refine lv_iconst (v := 1) hx hb dX4_behind_74 (by decide) ?_
        refine lv_iadd hx hb dX4_behind_75 ?_
        refine lv_goto (tgt := 80) hx hb dX4_behind_76 (by decide) ?_
        exact ret dX4_behind_80 rfl G ⟨Option.some.inj h, rfl⟩
    have h := g_if h c4
    by_cases c6 : a2 = 2
    · have h := g_it h c6
      refine lv_tableIn (off := 62) (tgt := 81) hx hb dX4_behind_19 (by rw [c6]; decide) (by rw [c6]; decide) (by rw [c6]; rfl) (by decide) ?_
      refine lv_iload_n hx hb dX4_behind_81 rfl (lv_at hl 2 rfl) ?_
      refine lv_aload_n hx hb dX4_behind_82 rfl (lv_at hl 1 rfl) ?_
      refine gg4_3 C G ok.1 u_fl_RX4_30 dX4_behind_83 ?_
      refine lv_iadd hx hb dX4_behind_86 ?_
      refine lv_aload_n hx hb dX4_behind_87 rfl (lv_at hl 1 rfl) ?_
      obtain ⟨v7, e_v7, h⟩ := g_bind h
      refine g_calli (g_runV (n := 0) (As := []) (rest := [.int (a1 + (σ t 3))]) C G (mX4_places l X σ t v7 ok e_v7) ok.1.2 (gE_4 ok.1.1) rfl (g_goodV u_ml_RX4_54 u_im_yX4_places u_se_yX4_places u_in_RX4 u_co_yX4_places) rfl rfl rfl (by decide +kernel) ⟨Nat.le_of_ble_eq_true rfl, Nat.le_of_ble_eq_true rfl⟩ rfl hl.1 rfl (Nat.le_of_ble_eq_true rfl) dX4_behind_88 ⟨Nat.zero_le _, Nat.zero_le _⟩) G (fun H locs G => ?_)
      refine lv_icmp_ge (tgt := 103) hx hb dX4_behind_91 (by decide) (fun c8 => ?_) (fun c8 => ?_)
      · have h := g_it h c8
        refine lv_iconst (v := (-1)) hx hb dX4_behind_103 (by decide) ?_
        exact ret dX4_behind_104 rfl G ⟨Option.some.inj h, rfl⟩
      · have h := g_if h c8
        refine lv_iload_n hx hb dX4_behind_94 rfl (lv_at hl 2 rfl) ?_
        refine lv_aload_n hx hb dX4_behind_95 rfl (lv_at hl 1 rfl) ?_
        refine gg4_3 C G ok.1 u_fl_RX4_30 dX4_behind_96 ?_
        refine lv_iadd hx hb dX4_behind_99 ?_
        refine lv_goto (tgt := 104) hx hb dX4_behind_100 (by decide) ?_
        exact ret dX4_behind_104 rfl G ⟨Option.some.inj h, rfl⟩
    have h := g_if h c6
    refine lv_tableOut (tgt := 105) hx hb dX4_behind_19 (by have q0 := lv_neT c2 (a := 0) (by decide); have q1 := lv_neT c4 (a := 1) (by decide); have q2 := lv_neT c6 (a := 2) (by decide); omega) (by decide) ?_
    refine lv_iload_n hx hb dX4_behind_105 rfl (lv_at hl 0 rfl) ?_
    refine lv_if_le (tgt := 115) hx hb dX4_behind_106 (by decide) (fun _ => ?_) (fun c9 => absurd c9 (by decide))
    refine lv_iconst (v := (-1)) hx hb dX4_behind_115 (by decide) ?_
    exact ret dX4_behind_116 rfl G ⟨Option.some.inj h, rfl⟩
  · have h := g_if h c1
    refine lv_iload_n hx hb dX4_behind_7 rfl (lv_at hl 1 rfl) ?_
    refine lv_aload_n hx hb dX4_behind_8 rfl (lv_at hl 0 rfl) ?_
    refine gg4_3 C G ok.1 u_fl_RX4_30 dX4_behind_9 ?_
    obtain ⟨c10, h⟩ := g_chk h
    refine lv_irem hx hb dX4_behind_12 c10 ?_
    refine lv_goto (tgt := 17) hx hb dX4_behind_13 (by decide) ?_
    refine lv_topi (fun w11 e_w11 => ?_)
    have h := g_let2 e_w11 h
    refine lv_istore_n (lv' := [(3, .int w11), (0, .ref (xN X + t)), (1, .int a1), (2, .int a2)]) hx hb dX4_behind_17 rfl hl (by decide) rfl (fun ls hl => ?_)
    refine lv_iload_n hx hb dX4_behind_18 rfl (lv_at hl 3 rfl) ?_
    by_cases c12 : a2 = 0
    · have h := g_it h c12
      refine lv_tableIn (off := 25) (tgt := 44) hx hb dX4_behind_19 (by rw [c12]; decide) (by rw [c12]; decide) (by rw [c12]; rfl) (by decide) ?_
      refine lv_iload_n hx hb dX4_behind_44 rfl (lv_at hl 2 rfl) ?_
      refine lv_aload_n hx hb dX4_behind_45 rfl (lv_at hl 1 rfl) ?_
      refine gg4_3 C G ok.1 u_fl_RX4_30 dX4_behind_46 ?_
      refine lv_icmp_lt (tgt := 61) hx hb dX4_behind_49 (by decide) (fun c13 => ?_) (fun c13 => ?_)
      · have h := g_it h c13
        refine lv_iconst (v := (-1)) hx hb dX4_behind_61 (by decide) ?_
        exact ret dX4_behind_62 rfl G ⟨Option.some.inj h, rfl⟩
      · have h := g_if h c13
        refine lv_iload_n hx hb dX4_behind_52 rfl (lv_at hl 2 rfl) ?_
        refine lv_aload_n hx hb dX4_behind_53 rfl (lv_at hl 1 rfl) ?_
        refine gg4_3 C G ok.1 u_fl_RX4_30 dX4_behind_54 ?_
        refine lv_isub hx hb dX4_behind_57 ?_
        refine lv_goto (tgt := 62) hx hb dX4_behind_58 (by decide) ?_
        exact ret dX4_behind_62 rfl G ⟨Option.some.inj h, rfl⟩
    have h := g_if h c12
    by_cases c14 : a2 = 1
    · have h := g_it h c14
      refine lv_tableIn (off := 44) (tgt := 63) hx hb dX4_behind_19 (by rw [c14]; decide) (by rw [c14]; decide) (by rw [c14]; rfl) (by decide) ?_
      refine lv_iload_n hx hb dX4_behind_63 rfl (lv_at hl 0 rfl) ?_
      refine lv_iconst (v := 1) hx hb dX4_behind_64 (by decide) ?_
      refine lv_iadd hx hb dX4_behind_65 ?_
      refine lv_aload_n hx hb dX4_behind_66 rfl (lv_at hl 1 rfl) ?_
      refine gg4_3 C G ok.1 u_fl_RX4_30 dX4_behind_67 ?_
      refine lv_icmp_ge (tgt := 79) hx hb dX4_behind_70 (by decide) (fun c15 => ?_) (fun c15 => ?_)
      · have h := g_it h c15
        refine lv_iconst (v := (-1)) hx hb dX4_behind_79 (by decide) ?_
        exact ret dX4_behind_80 rfl G ⟨Option.some.inj h, rfl⟩
      · have h := g_if h c15
        refine lv_iload_n hx hb dX4_behind_73 rfl (lv_at hl 2 rfl) ?_
        refine lv_iconst (v := 1) hx hb dX4_behind_74 (by decide) ?_
        refine lv_iadd hx hb dX4_behind_75 ?_
        refine lv_goto (tgt := 80) hx hb dX4_behind_76 (by decide) ?_
        exact ret dX4_behind_80 rfl G ⟨Option.some.inj h, rfl⟩
    have h := g_if h c14
    by_cases c16 : a2 = 2
    · have h := g_it h c16
      refine lv_tableIn (off := 62) (tgt := 81) hx hb dX4_behind_19 (by rw [c16]; decide) (by rw [c16]; decide) (by rw [c16]; rfl) (by decide) ?_
      refine lv_iload_n hx hb dX4_behind_81 rfl (lv_at hl 2 rfl) ?_
      refine lv_aload_n hx hb dX4_behind_82 rfl (lv_at hl 1 rfl) ?_
      refine gg4_3 C G ok.1 u_fl_RX4_30 dX4_behind_83 ?_
      refine lv_iadd hx hb dX4_behind_86 ?_
      refine lv_aload_n hx hb dX4_behind_87 rfl (lv_at hl 1 rfl) ?_
      obtain ⟨v17, e_v17, h⟩ := g_bind h
      refine g_calli (g_runV (n := 0) (As := []) (rest := [.int (a1 + (σ t 3))]) C G (mX4_places l X σ t v17 ok e_v17) ok.1.2 (gE_4 ok.1.1) rfl (g_goodV u_ml_RX4_54 u_im_yX4_places u_se_yX4_places u_in_RX4 u_co_yX4_places) rfl rfl rfl (by decide +kernel) ⟨Nat.le_of_ble_eq_true rfl, Nat.le_of_ble_eq_true rfl⟩ rfl hl.1 rfl (Nat.le_of_ble_eq_true rfl) dX4_behind_88 ⟨Nat.zero_le _, Nat.zero_le _⟩) G (fun H locs G => ?_)
      refine lv_icmp_ge (tgt := 103) hx hb dX4_behind_91 (by decide) (fun c18 => ?_) (fun c18 => ?_)
      · have h := g_it h c18
        refine lv_iconst (v := (-1)) hx hb dX4_behind_103 (by decide) ?_
        exact ret dX4_behind_104 rfl G ⟨Option.some.inj h, rfl⟩
      · have h := g_if h c18
        refine lv_iload_n hx hb dX4_behind_94 rfl (lv_at hl 2 rfl) ?_
        refine lv_aload_n hx hb dX4_behind_95 rfl (lv_at hl 1 rfl) ?_
        refine gg4_3 C G ok.1 u_fl_RX4_30 dX4_behind_96 ?_
        refine lv_iadd hx hb dX4_behind_99 ?_
        refine lv_goto (tgt := 104) hx hb dX4_behind_100 (by decide) ?_
        exact ret dX4_behind_104 rfl G ⟨Option.some.inj h, rfl⟩
    have h := g_if h c16
    refine lv_tableOut (tgt := 105) hx hb dX4_behind_19 (by have q0 := lv_neT c12 (a := 0) (by decide); have q1 := lv_neT c14 (a := 1) (by decide); have q2 := lv_neT c16 (a := 2) (by decide); omega) (by decide) ?_
    refine lv_iload_n hx hb dX4_behind_105 rfl (lv_at hl 0 rfl) ?_
    refine lv_if_le (tgt := 115) hx hb dX4_behind_106 (by decide) (fun c19 => ?_) (fun c19 => ?_)
    · have h := g_it h c19
      refine lv_iconst (v := (-1)) hx hb dX4_behind_115 (by decide) ?_
      exact ret dX4_behind_116 rfl G ⟨Option.some.inj h, rfl⟩
    · have h := g_if h c19
      refine lv_iload_n hx hb dX4_behind_109 rfl (lv_at hl 2 rfl) ?_
      refine lv_iconst (v := 1) hx hb dX4_behind_110 (by decide) ?_
      refine lv_isub hx hb dX4_behind_111 ?_
      refine lv_goto (tgt := 116) hx hb dX4_behind_112 (by decide) ?_
      exact ret dX4_behind_116 rfl G ⟨Option.some.inj h, rfl⟩

def fX4_scrapAt (σ : gM) (t : Nat) (a1 : Int32) : Option (Int32) :=
  ((fX5_get σ (t + 5) a1).bind fun v1 =>
  some v1)
set_option maxHeartbeats 4000000 in
set_option maxRecDepth 100000 in
theorem mX4_scrapAt (l : Launch) (X : gX) (σ : gM) (t : Nat) (a1 : Int32) (r : Int32) (ok : gok4 X t) (h : fX4_scrapAt σ t a1 = some r) : Met l yX4_scrapAt (Cond.code yX4_scrapAt cX4_scrapAt 2 (some .int) :: gBig) ({ frames := 1, cells := 0, slots := 0, locals := 21 }) (gPc X σ [.ref (xN X + t), .int a1]) (gQi X σ r) 0 0 (xA X) := by
  refine g_meti (cc := cX4_scrapAt) (maxL := 2) (own := RX4) (by decide) rfl rfl (Nat.le_of_ble_eq_true rfl) ?_
  intro p ev s m args below meth c Q C G ret ls hl
  obtain ⟨⟨hx, hb, hml, hown, hts⟩, hK⟩ := id C
  have hl : lv_has ls 2 [(0, .ref (xN X + t)), (1, .int a1)] := hl
  unfold fX4_scrapAt at h
  refine lv_aload_n hx hb dX4_scrapAt_0 rfl (lv_at hl 0 rfl) ?_
  refine gg4_2 C G ok.1 ok.2.1.2.2 u_fl_RX4_23 dX4_scrapAt_1 ?_
  refine lv_iload_n hx hb dX4_scrapAt_4 rfl (lv_at hl 1 rfl) ?_
  obtain ⟨v1, e_v1, h⟩ := g_bind h
  refine g_calli (g_runV (n := 1) (As := [.int a1]) (rest := []) C G (mX5_get l X σ (t + 5) a1 v1 ok.2.2.2.2 e_v1) ok.2.2.2.2.1.2 (gE_5 ok.2.2.2.2.1.1) rfl (g_goodV u_ml_RX4_37 u_im_yX5_get u_se_yX5_get u_in_RX5 u_co_yX5_get) rfl rfl rfl (by decide +kernel) ⟨Nat.le_of_ble_eq_true rfl, Nat.le_of_ble_eq_true rfl⟩ rfl hl.1 rfl (Nat.le_of_ble_eq_true rfl) dX4_scrapAt_5 ⟨Nat.zero_le _, Nat.zero_le _⟩) G (fun H locs G => ?_)
  exact ret dX4_scrapAt_8 rfl G ⟨Option.some.inj h, rfl⟩

def fX0_neighbour (σ : gM) (t : Nat) (a1 : Int32) (a2 : Int32) (a3 : Int32) : Option (Int32) :=
  ((fX4_behind σ (t + 8) a2 a3).bind fun v1 =>
  ((fX4_scrapAt σ (t + 8) v1).bind fun v2 =>
  (if v2 = a1 then
    some (-1)
  else
    some v2)))
set_option maxHeartbeats 4000000 in
set_option maxRecDepth 100000 in
theorem mX0_neighbour (l : Launch) (X : gX) (σ : gM) (t : Nat) (a1 : Int32) (a2 : Int32) (a3 : Int32) (r : Int32) (ok : gok0 X t) (h : fX0_neighbour σ t a1 a2 a3 = some r) : Met l yX0_neighbour (Cond.code yX0_neighbour cX0_neighbour 5 (some .int) :: gBig) ({ frames := 2, cells := 0, slots := 0, locals := 43 }) (gPc X σ [.ref (xN X + t), .int a1, .int a2, .int a3]) (gQi X σ r) 0 0 (xA X) := by
  refine g_meti (cc := cX0_neighbour) (maxL := 5) (own := RX0) (by decide) rfl rfl (Nat.le_of_ble_eq_true rfl) ?_
  intro p ev s m args below meth c Q C G ret ls hl
  obtain ⟨⟨hx, hb, hml, hown, hts⟩, hK⟩ := id C
  have hl : lv_has ls 5 [(0, .ref (xN X + t)), (1, .int a1), (2, .int a2), (3, .int a3)] := hl
  unfold fX0_neighbour at h
  refine lv_aload_n hx hb dX0_neighbour_0 rfl (lv_at hl 0 rfl) ?_
  refine gg0_1 C G ok.1 ok.2.1.2 u_fl_RX0_21 dX0_neighbour_1 ?_
  refine lv_aload_n hx hb dX0_neighbour_4 rfl (lv_at hl 0 rfl) ?_
  refine gg0_1 C G ok.1 ok.2.1.2 u_fl_RX0_21 dX0_neighbour_5 ?_
  refine lv_iload_n hx hb dX0_neighbour_8 rfl (lv_at hl 2 rfl) ?_
  refine lv_iload_n hx hb dX0_neighbour_9 rfl (lv_at hl 3 rfl) ?_
  obtain ⟨v1, e_v1, h⟩ := g_bind h
  refine g_calli (g_runV (n := 2) (As := [.int a2, .int a3]) (rest := [.ref (xN X + (t + 8))]) C G (mX4_behind l X σ (t + 8) a2 a3 v1 ok.2.2.2 e_v1) ok.2.2.2.1.2 (gE_4 ok.2.2.2.1.1) rfl (g_goodV u_ml_RX0_45 u_im_yX4_behind u_se_yX4_behind u_in_RX4 u_co_yX4_behind) rfl rfl rfl (by decide +kernel) ⟨Nat.le_of_ble_eq_true rfl, Nat.le_of_ble_eq_true rfl⟩ rfl hl.1 rfl (Nat.le_of_ble_eq_true rfl) dX0_neighbour_10 ⟨Nat.zero_le _, Nat.zero_le _⟩) G (fun H locs G => ?_)
  obtain ⟨v2, e_v2, h⟩ := g_bind h
  refine g_calli (g_runV (n := 1) (As := [.int v1]) (rest := []) C G (mX4_scrapAt l X σ (t + 8) v1 v2 ok.2.2.2 e_v2) ok.2.2.2.1.2 (gE_4 ok.2.2.2.1.1) rfl (g_goodV u_ml_RX0_49 u_im_yX4_scrapAt u_se_yX4_scrapAt u_in_RX4 u_co_yX4_scrapAt) rfl rfl rfl (by decide +kernel) ⟨Nat.le_of_ble_eq_true rfl, Nat.le_of_ble_eq_true rfl⟩ rfl hl.1 rfl (Nat.le_of_ble_eq_true rfl) dX0_neighbour_13 ⟨Nat.zero_le _, Nat.zero_le _⟩) G (fun H locs G => ?_)
  refine lv_istore (lv' := [(4, .int v2), (0, .ref (xN X + t)), (1, .int a1), (2, .int a2), (3, .int a3)]) hx hb dX0_neighbour_16 hl (by decide) rfl (fun ls hl => ?_)
  refine lv_iload hx hb dX0_neighbour_18 (lv_at hl 0 rfl) ?_
  refine lv_iload_n hx hb dX0_neighbour_20 rfl (lv_at hl 2 rfl) ?_
  refine lv_icmp_ne (tgt := 28) hx hb dX0_neighbour_21 (by decide) (fun c3 => ?_) (fun c3 => ?_)
  · have h := g_if h c3
    refine lv_iload hx hb dX0_neighbour_28 (lv_at hl 0 rfl) ?_
    exact ret dX0_neighbour_30 rfl G ⟨Option.some.inj h, rfl⟩
  · have h := g_it h c3
    refine lv_iconst (v := (-1)) hx hb dX0_neighbour_24 (by decide) ?_
    refine lv_goto (tgt := 30) hx hb dX0_neighbour_25 (by decide) ?_
    exact ret dX0_neighbour_30 rfl G ⟨Option.some.inj h, rfl⟩

def fX0_neighbourOnPage (σ : gM) (t : Nat) (a1 : Int32) (a2 : Int32) : Option (Int32) :=
  ((fX4_placeOf σ (t + 8) a1).bind fun v1 =>
  (if v1 = (-1) then
    some (-1)
  else
    ((fX0_neighbour σ t a1 v1 a2).bind fun v3 =>
    some v3)))
set_option maxHeartbeats 4000000 in
set_option maxRecDepth 100000 in
theorem mX0_neighbourOnPage (l : Launch) (X : gX) (σ : gM) (t : Nat) (a1 : Int32) (a2 : Int32) (r : Int32) (ok : gok0 X t) (h : fX0_neighbourOnPage σ t a1 a2 = some r) : Met l yX0_neighbourOnPage (Cond.code yX0_neighbourOnPage cX0_neighbourOnPage 4 (some .int) :: gBig) ({ frames := 3, cells := 0, slots := 0, locals := 67 }) (gPc X σ [.ref (xN X + t), .int a1, .int a2]) (gQi X σ r) 0 0 (xA X) := by
  refine g_meti (cc := cX0_neighbourOnPage) (maxL := 4) (own := RX0) (by decide) rfl rfl (Nat.le_of_ble_eq_true rfl) ?_
  intro p ev s m args below meth c Q C G ret ls hl
  obtain ⟨⟨hx, hb, hml, hown, hts⟩, hK⟩ := id C
  have hl : lv_has ls 4 [(0, .ref (xN X + t)), (1, .int a1), (2, .int a2)] := hl
  unfold fX0_neighbourOnPage at h
  refine lv_aload_n hx hb dX0_neighbourOnPage_0 rfl (lv_at hl 0 rfl) ?_
  refine gg0_1 C G ok.1 ok.2.1.2 u_fl_RX0_21 dX0_neighbourOnPage_1 ?_
  refine lv_iload_n hx hb dX0_neighbourOnPage_4 rfl (lv_at hl 1 rfl) ?_
  obtain ⟨v1, e_v1, h⟩ := g_bind h
  refine g_calli (g_runV (n := 1) (As := [.int a1]) (rest := []) C G (mX4_placeOf l X σ (t + 8) a1 v1 ok.2.2.2 e_v1) ok.2.2.2.1.2 (gE_4 ok.2.2.2.1.1) rfl (g_goodV u_ml_RX0_77 u_im_yX4_placeOf u_se_yX4_placeOf u_in_RX4 u_co_yX4_placeOf) rfl rfl rfl (by decide +kernel) ⟨Nat.le_of_ble_eq_true rfl, Nat.le_of_ble_eq_true rfl⟩ rfl hl.1 rfl (Nat.le_of_ble_eq_true rfl) dX0_neighbourOnPage_5 ⟨Nat.zero_le _, Nat.zero_le _⟩) G (fun H locs G => ?_)
  refine lv_istore_n (lv' := [(3, .int v1), (0, .ref (xN X + t)), (1, .int a1), (2, .int a2)]) hx hb dX0_neighbourOnPage_8 rfl hl (by decide) rfl (fun ls hl => ?_)
  refine lv_iload_n hx hb dX0_neighbourOnPage_9 rfl (lv_at hl 0 rfl) ?_
  refine lv_iconst (v := (-1)) hx hb dX0_neighbourOnPage_10 (by decide) ?_
  refine lv_icmp_ne (tgt := 18) hx hb dX0_neighbourOnPage_11 (by decide) (fun c2 => ?_) (fun c2 => ?_)
  · have h := g_if h c2
    refine lv_aload_n hx hb dX0_neighbourOnPage_18 rfl (lv_at hl 1 rfl) ?_
    refine lv_iload_n hx hb dX0_neighbourOnPage_19 rfl (lv_at hl 2 rfl) ?_
    refine lv_iload_n hx hb dX0_neighbourOnPage_20 rfl (lv_at hl 0 rfl) ?_
    refine lv_iload_n hx hb dX0_neighbourOnPage_21 rfl (lv_at hl 3 rfl) ?_
    obtain ⟨v3, e_v3, h⟩ := g_bind h
    refine g_calli (g_runV (n := 3) (As := [.int a1, .int v1, .int a2]) (rest := []) C G (mX0_neighbour l X σ t a1 v1 a2 v3 ok e_v3) ok.1.2 (gE_0 ok.1.1) rfl (g_goodV u_ml_RX0_57 u_im_yX0_neighbour u_se_yX0_neighbour u_in_RX0 u_co_yX0_neighbour) rfl rfl rfl (by decide +kernel) ⟨Nat.le_of_ble_eq_true rfl, Nat.le_of_ble_eq_true rfl⟩ rfl hl.1 rfl (Nat.le_of_ble_eq_true rfl) dX0_neighbourOnPage_22 ⟨Nat.zero_le _, Nat.zero_le _⟩) G (fun H locs G => ?_)
    exact ret dX0_neighbourOnPage_25 rfl G ⟨Option.some.inj h, rfl⟩
  · have h := g_it h c2
    refine lv_iconst (v := (-1)) hx hb dX0_neighbourOnPage_14 (by decide) ?_
    refine lv_goto (tgt := 25) hx hb dX0_neighbourOnPage_15 (by decide) ?_
    exact ret dX0_neighbourOnPage_25 rfl G ⟨Option.some.inj h, rfl⟩
end
