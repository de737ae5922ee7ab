/-! ===== BEGIN words of one list among another's, by their places ===== -/
theorem goodIn_r {big : List Cond} (ws : List Cond) (ps : List Nat) (hp : ws = ps.filterMap (fun i => big[i]?)) (h : ws.all goodWord = true) : GoodIn big ws := by
  intro w hw
  have h1 := List.all_eq_true.mp h w hw
  rw [hp] at hw
  obtain ⟨i, -, hi⟩ := List.mem_filterMap.mp hw
  have hm : w ∈ big := by first | exact List.mem_of_getElem? hi | exact List.getElem?_mem hi
  exact ⟨hm, good_of_word h1⟩
theorem goodIn_app {big a b : List Cond} (ha : GoodIn big a) (hb : GoodIn big b) : GoodIn big (a ++ b) := fun w h => (List.mem_append.mp h).elim (ha w) (hb w)
theorem goodIn_ca {big a b : List Cond} {c : Cond} (ha : GoodIn big (c :: a)) (hb : GoodIn big b) : GoodIn big (c :: (a ++ b)) := fun w h => (List.mem_cons.mp h).elim (fun e => ha w (List.mem_cons.mpr (Or.inl e))) (fun h => (List.mem_append.mp h).elim (fun h => ha w (List.mem_cons.mpr (Or.inr h))) (hb w))
theorem goodIn_sub {big ws : List Cond} (hm : ∀ w ∈ ws, w ∈ big) (h : ws.all goodWord = true) : GoodIn big ws := fun w hw => ⟨hm w hw, good_of_word (List.all_eq_true.mp h w hw)⟩
/-! ===== END ===== -/

/-! ===== BEGIN printed: names, fields, word lists, decode rows ===== -/
def RX0 : String := "TornPages$Desk"
def TX0 : u_T := fun k => match k with
  | 0 => ("TornPages$Desk", "scraps", "LTornPages$Scraps;", true)
  | _ => ("TornPages$Desk", "page", "LTornPages$Page;", true)
def tyX0 : Nat → FieldType := fun k => match k with
  | 0 => .object "TornPages$Scraps"
  | _ => .object "TornPages$Page"
abbrev wsX00 : List Cond := u_ws RX0 TX0 2
theorem nmX0 : ∀ a, a < 2 → ∀ b, b < 2 → a ≠ b → (TX0 a).2.1 ≠ (TX0 b).2.1 := by decide +kernel
theorem tyX0_ok : ∀ k, k < 2 → parseFieldDescriptor (TX0 k).2.2.1 = some (tyX0 k) := by decide +kernel
abbrev cX0_init : ByteArray := prog_2_method_1_code
def yX0_init : MethodName := ⟨RX0, "<init>", "()V"⟩
abbrev cX0_copy : ByteArray := prog_2_method_2_code
def yX0_copy : MethodName := ⟨RX0, "copy", "(LTornPages$Desk;)V"⟩
abbrev cX0_remove : ByteArray := prog_2_method_3_code
def yX0_remove : MethodName := ⟨RX0, "remove", "(I)V"⟩
abbrev cX0_countLying : ByteArray := prog_2_method_4_code
def yX0_countLying : MethodName := ⟨RX0, "countLying", "()I"⟩
abbrev cX0_neighbour : ByteArray := prog_2_method_5_code
def yX0_neighbour : MethodName := ⟨RX0, "neighbour", "(III)I"⟩
abbrev cX0_verdict : ByteArray := prog_2_method_6_code
def yX0_verdict : MethodName := ⟨RX0, "verdict", "(IIII)I"⟩
abbrev cX0_canLie : ByteArray := prog_2_method_7_code
def yX0_canLie : MethodName := ⟨RX0, "canLie", "(III)Z"⟩
abbrev cX0_countWays : ByteArray := prog_2_method_8_code
def yX0_countWays : MethodName := ⟨RX0, "countWays", "(II)I"⟩
abbrev cX0_seamsAt : ByteArray := prog_2_method_9_code
def yX0_seamsAt : MethodName := ⟨RX0, "seamsAt", "(II)I"⟩
abbrev cX0_countFits : ByteArray := prog_2_method_10_code
def yX0_countFits : MethodName := ⟨RX0, "countFits", "(I)I"⟩
abbrev cX0_countFaults : ByteArray := prog_2_method_11_code
def yX0_countFaults : MethodName := ⟨RX0, "countFaults", "(I)I"⟩
abbrev cX0_verdictOnPage : ByteArray := prog_2_method_12_code
def yX0_verdictOnPage : MethodName := ⟨RX0, "verdictOnPage", "(II)I"⟩
abbrev cX0_neighbourOnPage : ByteArray := prog_2_method_13_code
def yX0_neighbourOnPage : MethodName := ⟨RX0, "neighbourOnPage", "(II)I"⟩
abbrev cX0_isJoined : ByteArray := prog_2_method_14_code
def yX0_isJoined : MethodName := ⟨RX0, "isJoined", "(II)Z"⟩
abbrev cX0_countSeams : ByteArray := prog_2_method_15_code
def yX0_countSeams : MethodName := ⟨RX0, "countSeams", "()I"⟩
abbrev cX0_countFittingSeams : ByteArray := prog_2_method_16_code
def yX0_countFittingSeams : MethodName := ⟨RX0, "countFittingSeams", "()I"⟩
abbrev cX0_countBorderEdges : ByteArray := prog_2_method_17_code
def yX0_countBorderEdges : MethodName := ⟨RX0, "countBorderEdges", "(I)I"⟩
abbrev cX0_isAtBorder : ByteArray := prog_2_method_18_code
def yX0_isAtBorder : MethodName := ⟨RX0, "isAtBorder", "(II)Z"⟩
abbrev cX0_bestPlace : ByteArray := prog_2_method_19_code
def yX0_bestPlace : MethodName := ⟨RX0, "bestPlace", "(I)I"⟩
abbrev cX0_layNext : ByteArray := prog_2_method_20_code
def yX0_layNext : MethodName := ⟨RX0, "layNext", "()Z"⟩
def RX1 : String := "TornPages$Draft"
def TX1 : u_T := fun k => match k with
  | 0 => ("TornPages$Draft", "profiles", "LTornPages$Row;", true)
  | 1 => ("TornPages$Draft", "lines", "LTornPages$Row;", true)
  | _ => ("TornPages$Draft", "kind", "I", false)
def tyX1 : Nat → FieldType := fun k => match k with
  | 0 => .object "TornPages$Row"
  | 1 => .object "TornPages$Row"
  | _ => .int
abbrev wsX10 : List Cond := u_ws RX1 TX1 3
theorem nmX1 : ∀ a, a < 3 → ∀ b, b < 3 → a ≠ b → (TX1 a).2.1 ≠ (TX1 b).2.1 := by decide +kernel
theorem tyX1_ok : ∀ k, k < 3 → parseFieldDescriptor (TX1 k).2.2.1 = some (tyX1 k) := by decide +kernel
abbrev cX1_init : ByteArray := prog_3_method_1_code
def yX1_init : MethodName := ⟨RX1, "<init>", "()V"⟩
abbrev cX1_setEdge : ByteArray := prog_3_method_2_code
def yX1_setEdge : MethodName := ⟨RX1, "setEdge", "(III)V"⟩
abbrev cX1_setKind : ByteArray := prog_3_method_3_code
def yX1_setKind : MethodName := ⟨RX1, "setKind", "(I)V"⟩
abbrev cX1_kind : ByteArray := prog_3_method_4_code
def yX1_kind : MethodName := ⟨RX1, "kind", "()I"⟩
abbrev cX1_profile : ByteArray := prog_3_method_5_code
def yX1_profile : MethodName := ⟨RX1, "profile", "(II)I"⟩
abbrev cX1_line : ByteArray := prog_3_method_6_code
def yX1_line : MethodName := ⟨RX1, "line", "(II)I"⟩
abbrev cX1_origin : ByteArray := prog_3_method_7_code
def yX1_origin : MethodName := ⟨RX1, "origin", "(II)I"⟩
abbrev cX1_unturned : ByteArray := prog_3_method_8_code
def yX1_unturned : MethodName := ⟨RX1, "unturned", "(II)I"⟩
abbrev cX1_isReversed : ByteArray := prog_3_method_9_code
def yX1_isReversed : MethodName := ⟨RX1, "isReversed", "(II)Z"⟩
abbrev cX1_isToldClockwise : ByteArray := prog_3_method_10_code
def yX1_isToldClockwise : MethodName := ⟨RX1, "isToldClockwise", "(I)Z"⟩
abbrev cX1_reverse : ByteArray := prog_3_method_11_code
def yX1_reverse : MethodName := ⟨RX1, "reverse", "(I)I"⟩
def RX2 : String := "TornPages$Groups"
def TX2 : u_T := fun k => match k with
  | 0 => ("TornPages$Groups", "lowest", "LTornPages$Row;", true)
  | _ => ("TornPages$Groups", "scraps", "I", false)
def tyX2 : Nat → FieldType := fun k => match k with
  | 0 => .object "TornPages$Row"
  | _ => .int
abbrev wsX20 : List Cond := u_ws RX2 TX2 2
theorem nmX2 : ∀ a, a < 2 → ∀ b, b < 2 → a ≠ b → (TX2 a).2.1 ≠ (TX2 b).2.1 := by decide +kernel
theorem tyX2_ok : ∀ k, k < 2 → parseFieldDescriptor (TX2 k).2.2.1 = some (tyX2 k) := by decide +kernel
abbrev cX2_init : ByteArray := prog_4_method_1_code
def yX2_init : MethodName := ⟨RX2, "<init>", "()V"⟩
abbrev cX2_gather : ByteArray := prog_4_method_2_code
def yX2_gather : MethodName := ⟨RX2, "gather", "(LTornPages$Desk;)V"⟩
abbrev cX2_join : ByteArray := prog_4_method_3_code
def yX2_join : MethodName := ⟨RX2, "join", "(LTornPages$Desk;II)V"⟩
abbrev cX2_size : ByteArray := prog_4_method_4_code
def yX2_size : MethodName := ⟨RX2, "size", "()I"⟩
abbrev cX2_groupOf : ByteArray := prog_4_method_5_code
def yX2_groupOf : MethodName := ⟨RX2, "groupOf", "(I)I"⟩
abbrev cX2_countBelow : ByteArray := prog_4_method_6_code
def yX2_countBelow : MethodName := ⟨RX2, "countBelow", "(I)I"⟩
abbrev cX2_scrapOf : ByteArray := prog_4_method_7_code
def yX2_scrapOf : MethodName := ⟨RX2, "scrapOf", "(II)I"⟩
def RX3 : String := "TornPages$History"
def TX3 : u_T := fun k => match k with
  | 0 => ("TornPages$History", "states", "[LTornPages$Desk;", true)
  | 1 => ("TornPages$History", "oldest", "I", false)
  | _ => ("TornPages$History", "size", "I", false)
def tyX3 : Nat → FieldType := fun k => match k with
  | 0 => .array (.object "TornPages$Desk")
  | 1 => .int
  | _ => .int
abbrev wsX30 : List Cond := u_ws RX3 TX3 3
theorem nmX3 : ∀ a, a < 3 → ∀ b, b < 3 → a ≠ b → (TX3 a).2.1 ≠ (TX3 b).2.1 := by decide +kernel
theorem tyX3_ok : ∀ k, k < 3 → parseFieldDescriptor (TX3 k).2.2.1 = some (tyX3 k) := by decide +kernel
abbrev cX3_init : ByteArray := prog_5_method_1_code
def yX3_init : MethodName := ⟨RX3, "<init>", "()V"⟩
abbrev cX3_size : ByteArray := prog_5_method_2_code
def yX3_size : MethodName := ⟨RX3, "size", "()I"⟩
abbrev cX3_keep : ByteArray := prog_5_method_3_code
def yX3_keep : MethodName := ⟨RX3, "keep", "(LTornPages$Desk;)V"⟩
abbrev cX3_restore : ByteArray := prog_5_method_4_code
def yX3_restore : MethodName := ⟨RX3, "restore", "(LTornPages$Desk;)V"⟩
abbrev cX3_state : ByteArray := prog_5_method_5_code
def yX3_state : MethodName := ⟨RX3, "state", "(I)LTornPages$Desk;"⟩
def RX4 : String := "TornPages$Page"
def TX4 : u_T := fun k => match k with
  | 0 => ("TornPages$Page", "places", "LTornPages$Row;", true)
  | 1 => ("TornPages$Page", "orientations", "LTornPages$Row;", true)
  | 2 => ("TornPages$Page", "lying", "LTornPages$Row;", true)
  | 3 => ("TornPages$Page", "width", "I", false)
  | _ => ("TornPages$Page", "height", "I", false)
def tyX4 : Nat → FieldType := fun k => match k with
  | 0 => .object "TornPages$Row"
  | 1 => .object "TornPages$Row"
  | 2 => .object "TornPages$Row"
  | 3 => .int
  | _ => .int
abbrev wsX40 : List Cond := u_ws RX4 TX4 5
theorem nmX4 : ∀ a, a < 5 → ∀ b, b < 5 → a ≠ b → (TX4 a).2.1 ≠ (TX4 b).2.1 := by decide +kernel
theorem tyX4_ok : ∀ k, k < 5 → parseFieldDescriptor (TX4 k).2.2.1 = some (tyX4 k) := by decide +kernel
abbrev cX4_init : ByteArray := prog_6_method_1_code
def yX4_init : MethodName := ⟨RX4, "<init>", "()V"⟩
abbrev cX4_width : ByteArray := prog_6_method_2_code
def yX4_width : MethodName := ⟨RX4, "width", "()I"⟩
abbrev cX4_height : ByteArray := prog_6_method_3_code
def yX4_height : MethodName := ⟨RX4, "height", "()I"⟩
abbrev cX4_places : ByteArray := prog_6_method_4_code
def yX4_places : MethodName := ⟨RX4, "places", "()I"⟩
abbrev cX4_lies : ByteArray := prog_6_method_5_code
def yX4_lies : MethodName := ⟨RX4, "lies", "(I)Z"⟩
abbrev cX4_placeOf : ByteArray := prog_6_method_6_code
def yX4_placeOf : MethodName := ⟨RX4, "placeOf", "(I)I"⟩
abbrev cX4_orientationOf : ByteArray := prog_6_method_7_code
def yX4_orientationOf : MethodName := ⟨RX4, "orientationOf", "(I)I"⟩
abbrev cX4_scrapAt : ByteArray := prog_6_method_8_code
def yX4_scrapAt : MethodName := ⟨RX4, "scrapAt", "(I)I"⟩
abbrev cX4_clear : ByteArray := prog_6_method_9_code
def yX4_clear : MethodName := ⟨RX4, "clear", "(II)V"⟩
abbrev cX4_put : ByteArray := prog_6_method_10_code
def yX4_put : MethodName := ⟨RX4, "put", "(III)V"⟩
abbrev cX4_take : ByteArray := prog_6_method_11_code
def yX4_take : MethodName := ⟨RX4, "take", "(I)V"⟩
abbrev cX4_remove : ByteArray := prog_6_method_12_code
def yX4_remove : MethodName := ⟨RX4, "remove", "(I)V"⟩
abbrev cX4_copy : ByteArray := prog_6_method_13_code
def yX4_copy : MethodName := ⟨RX4, "copy", "(LTornPages$Page;)V"⟩
abbrev cX4_behind : ByteArray := prog_6_method_14_code
def yX4_behind : MethodName := ⟨RX4, "behind", "(II)I"⟩
def RX5 : String := "TornPages$Row"
def TX5 : u_T := fun k => match k with
  | _ => ("TornPages$Row", "numbers", "[I", true)
def tyX5 : Nat → FieldType := fun k => match k with
  | _ => .array .int
abbrev wsX50 : List Cond := u_ws RX5 TX5 1
theorem nmX5 : ∀ a, a < 1 → ∀ b, b < 1 → a ≠ b → (TX5 a).2.1 ≠ (TX5 b).2.1 := by decide +kernel
theorem tyX5_ok : ∀ k, k < 1 → parseFieldDescriptor (TX5 k).2.2.1 = some (tyX5 k) := by decide +kernel
abbrev cX5_init : ByteArray := prog_7_method_1_code
def yX5_init : MethodName := ⟨RX5, "<init>", "(I)V"⟩
abbrev cX5_get : ByteArray := prog_7_method_2_code
def yX5_get : MethodName := ⟨RX5, "get", "(I)I"⟩
abbrev cX5_set : ByteArray := prog_7_method_3_code
def yX5_set : MethodName := ⟨RX5, "set", "(II)V"⟩
abbrev cX5_setAll : ByteArray := prog_7_method_4_code
def yX5_setAll : MethodName := ⟨RX5, "setAll", "(I)V"⟩
abbrev cX5_copy : ByteArray := prog_7_method_5_code
def yX5_copy : MethodName := ⟨RX5, "copy", "(LTornPages$Row;)V"⟩
abbrev cX5_cut : ByteArray := prog_7_method_6_code
def yX5_cut : MethodName := ⟨RX5, "cut", "(II)V"⟩
def RX6 : String := "TornPages$Scraps"
def TX6 : u_T := fun k => match k with
  | 0 => ("TornPages$Scraps", "kinds", "LTornPages$Row;", true)
  | 1 => ("TornPages$Scraps", "profiles", "LTornPages$Row;", true)
  | 2 => ("TornPages$Scraps", "lines", "LTornPages$Row;", true)
  | _ => ("TornPages$Scraps", "size", "I", false)
def tyX6 : Nat → FieldType := fun k => match k with
  | 0 => .object "TornPages$Row"
  | 1 => .object "TornPages$Row"
  | 2 => .object "TornPages$Row"
  | _ => .int
abbrev wsX60 : List Cond := u_ws RX6 TX6 4
theorem nmX6 : ∀ a, a < 4 → ∀ b, b < 4 → a ≠ b → (TX6 a).2.1 ≠ (TX6 b).2.1 := by decide +kernel
theorem tyX6_ok : ∀ k, k < 4 → parseFieldDescriptor (TX6 k).2.2.1 = some (tyX6 k) := by decide +kernel
abbrev cX6_init : ByteArray := prog_8_method_1_code
def yX6_init : MethodName := ⟨RX6, "<init>", "()V"⟩
abbrev cX6_size : ByteArray := prog_8_method_2_code
def yX6_size : MethodName := ⟨RX6, "size", "()I"⟩
abbrev cX6_kind : ByteArray := prog_8_method_3_code
def yX6_kind : MethodName := ⟨RX6, "kind", "(I)I"⟩
abbrev cX6_profile : ByteArray := prog_8_method_4_code
def yX6_profile : MethodName := ⟨RX6, "profile", "(III)I"⟩
abbrev cX6_line : ByteArray := prog_8_method_5_code
def yX6_line : MethodName := ⟨RX6, "line", "(III)I"⟩
abbrev cX6_append : ByteArray := prog_8_method_6_code
def yX6_append : MethodName := ⟨RX6, "append", "(LTornPages$Draft;)V"⟩
abbrev cX6_remove : ByteArray := prog_8_method_7_code
def yX6_remove : MethodName := ⟨RX6, "remove", "(I)V"⟩
abbrev cX6_copy : ByteArray := prog_8_method_8_code
def yX6_copy : MethodName := ⟨RX6, "copy", "(LTornPages$Scraps;)V"⟩
def RX7 : String := "TornPages$Text"
def TX7 : u_T := fun k => match k with
  | 0 => ("TornPages$Text", "signs", "LTornPages$Row;", true)
  | 1 => ("TornPages$Text", "draft", "LTornPages$Draft;", true)
  | 2 => ("TornPages$Text", "length", "I", false)
  | 3 => ("TornPages$Text", "position", "I", false)
  | _ => ("TornPages$Text", "sound", "Z", false)
def tyX7 : Nat → FieldType := fun k => match k with
  | 0 => .object "TornPages$Row"
  | 1 => .object "TornPages$Draft"
  | 2 => .int
  | 3 => .int
  | _ => .boolean
abbrev wsX70 : List Cond := u_ws RX7 TX7 5
theorem nmX7 : ∀ a, a < 5 → ∀ b, b < 5 → a ≠ b → (TX7 a).2.1 ≠ (TX7 b).2.1 := by decide +kernel
theorem tyX7_ok : ∀ k, k < 5 → parseFieldDescriptor (TX7 k).2.2.1 = some (tyX7 k) := by decide +kernel
abbrev cX7_init : ByteArray := prog_9_method_1_code
def yX7_init : MethodName := ⟨RX7, "<init>", "()V"⟩
abbrev cX7_length : ByteArray := prog_9_method_2_code
def yX7_length : MethodName := ⟨RX7, "length", "()I"⟩
def RX8 : String := "TornPages"
def TX8 : u_T := fun k => match k with
  | 0 => ("TornPages", "desk", "LTornPages$Desk;", true)
  | 1 => ("TornPages", "trial", "LTornPages$Desk;", true)
  | 2 => ("TornPages", "history", "LTornPages$History;", true)
  | 3 => ("TornPages", "groups", "LTornPages$Groups;", true)
  | 4 => ("TornPages", "text", "LTornPages$Text;", true)
  | _ => ("TornPages", "draft", "LTornPages$Draft;", true)
def tyX8 : Nat → FieldType := fun k => match k with
  | 0 => .object "TornPages$Desk"
  | 1 => .object "TornPages$Desk"
  | 2 => .object "TornPages$History"
  | 3 => .object "TornPages$Groups"
  | 4 => .object "TornPages$Text"
  | _ => .object "TornPages$Draft"
abbrev wsX80 : List Cond := u_ws RX8 TX8 6
theorem nmX8 : ∀ a, a < 6 → ∀ b, b < 6 → a ≠ b → (TX8 a).2.1 ≠ (TX8 b).2.1 := by decide +kernel
theorem tyX8_ok : ∀ k, k < 6 → parseFieldDescriptor (TX8 k).2.2.1 = some (tyX8 k) := by decide +kernel
abbrev cX8_init : ByteArray := prog_1_method_1_code
def yX8_init : MethodName := ⟨RX8, "<init>", "()V"⟩
abbrev cX8_reset : ByteArray := prog_1_method_2_code
def yX8_reset : MethodName := ⟨RX8, "reset", "(II)I"⟩
abbrev cX8_addScrap : ByteArray := prog_1_method_3_code
def yX8_addScrap : MethodName := ⟨RX8, "addScrap", "(IIIII)I"⟩
abbrev cX8_removeScrap : ByteArray := prog_1_method_5_code
def yX8_removeScrap : MethodName := ⟨RX8, "removeScrap", "(I)I"⟩
abbrev cX8_scrap : ByteArray := prog_1_method_6_code
def yX8_scrap : MethodName := ⟨RX8, "scrap", "(II)I"⟩
abbrev cX8_edge : ByteArray := prog_1_method_7_code
def yX8_edge : MethodName := ⟨RX8, "edge", "(IIII)I"⟩
abbrev cX8_undo : ByteArray := prog_1_method_8_code
def yX8_undo : MethodName := ⟨RX8, "undo", "()I"⟩
abbrev cX8_count : ByteArray := prog_1_method_9_code
def yX8_count : MethodName := ⟨RX8, "count", "(I)I"⟩
abbrev cX8_lay : ByteArray := prog_1_method_10_code
def yX8_lay : MethodName := ⟨RX8, "lay", "(III)I"⟩
abbrev cX8_force : ByteArray := prog_1_method_11_code
def yX8_force : MethodName := ⟨RX8, "force", "(III)I"⟩
abbrev cX8_lift : ByteArray := prog_1_method_12_code
def yX8_lift : MethodName := ⟨RX8, "lift", "(I)I"⟩
abbrev cX8_turn : ByteArray := prog_1_method_13_code
def yX8_turn : MethodName := ⟨RX8, "turn", "(II)I"⟩
abbrev cX8_at : ByteArray := prog_1_method_14_code
def yX8_at : MethodName := ⟨RX8, "at", "(I)I"⟩
abbrev cX8_reason : ByteArray := prog_1_method_15_code
def yX8_reason : MethodName := ⟨RX8, "reason", "(II)I"⟩
abbrev cX8_ways : ByteArray := prog_1_method_16_code
def yX8_ways : MethodName := ⟨RX8, "ways", "(II)I"⟩
abbrev cX8_fill : ByteArray := prog_1_method_18_code
def yX8_fill : MethodName := ⟨RX8, "fill", "()I"⟩
abbrev cX8_member : ByteArray := prog_1_method_19_code
def yX8_member : MethodName := ⟨RX8, "member", "(II)I"⟩
abbrev cX8_append : ByteArray := prog_1_method_24_code
def yX8_append : MethodName := ⟨RX8, "append", "(LTornPages$Draft;)I"⟩
abbrev cX8_isFree : ByteArray := prog_1_method_25_code
def yX8_isFree : MethodName := ⟨RX8, "isFree", "(II)Z"⟩
abbrev cX8_isScrap : ByteArray := prog_1_method_26_code
def yX8_isScrap : MethodName := ⟨RX8, "isScrap", "(I)Z"⟩
abbrev cX8_isPlace : ByteArray := prog_1_method_27_code
def yX8_isPlace : MethodName := ⟨RX8, "isPlace", "(I)Z"⟩
abbrev cX8_isOrientation : ByteArray := prog_1_method_28_code
def yX8_isOrientation : MethodName := ⟨RX8, "isOrientation", "(I)Z"⟩
abbrev cX8_isEdge : ByteArray := prog_1_method_29_code
def yX8_isEdge : MethodName := ⟨RX8, "isEdge", "(I)Z"⟩
abbrev cX8_isProfile : ByteArray := prog_1_method_30_code
def yX8_isProfile : MethodName := ⟨RX8, "isProfile", "(I)Z"⟩
abbrev cX8_isWithin : ByteArray := prog_1_method_31_code
def yX8_isWithin : MethodName := ⟨RX8, "isWithin", "(III)Z"⟩
def RX9 : String := "TornPagesModel"
def TX9 : u_T := fun k => match k with
  | _ => ("", "", "", false)
def tyX9 : Nat → FieldType := fun k => match k with
  | _ => .int
abbrev wsX90 : List Cond := u_ws RX9 TX9 0
theorem nmX9 : ∀ a, a < 0 → ∀ b, b < 0 → a ≠ b → (TX9 a).2.1 ≠ (TX9 b).2.1 := by decide +kernel
theorem tyX9_ok : ∀ k, k < 0 → parseFieldDescriptor (TX9 k).2.2.1 = some (tyX9 k) := by decide +kernel
def RJ9 : String := "java/lang/Math"
def TJ9 : u_T := fun k => match k with
  | _ => ("", "", "", false)
def tyJ9 : Nat → FieldType := fun k => match k with
  | _ => .int
abbrev wsJ90 : List Cond := u_ws RJ9 TJ9 0
theorem nmJ9 : ∀ a, a < 0 → ∀ b, b < 0 → a ≠ b → (TJ9 a).2.1 ≠ (TJ9 b).2.1 := by decide +kernel
theorem tyJ9_ok : ∀ k, k < 0 → parseFieldDescriptor (TJ9 k).2.2.1 = some (tyJ9 k) := by decide +kernel
abbrev cJ9_max_7cf53 : ByteArray := prog_12_method_65_code
def yJ9_max_7cf53 : MethodName := ⟨RJ9, "max", "(II)I"⟩
abbrev cJ9_min_7cf53 : ByteArray := prog_12_method_69_code
def yJ9_min_7cf53 : MethodName := ⟨RJ9, "min", "(II)I"⟩
def RJ10 : String := "java/lang/System"
def TJ10 : u_T := fun k => match k with
  | _ => ("", "", "", false)
def tyJ10 : Nat → FieldType := fun k => match k with
  | _ => .int
abbrev wsJ100 : List Cond := u_ws RJ10 TJ10 0
theorem nmJ10 : ∀ a, a < 0 → ∀ b, b < 0 → a ≠ b → (TJ10 a).2.1 ≠ (TJ10 b).2.1 := by decide +kernel
theorem tyJ10_ok : ∀ k, k < 0 → parseFieldDescriptor (TJ10 k).2.2.1 = some (tyJ10 k) := by decide +kernel
def RJ7 : String := "java/util/Arrays"
def TJ7 : u_T := fun k => match k with
  | _ => ("", "", "", false)
def tyJ7 : Nat → FieldType := fun k => match k with
  | _ => .int
abbrev wsJ70 : List Cond := u_ws RJ7 TJ7 0
theorem nmJ7 : ∀ a, a < 0 → ∀ b, b < 0 → a ≠ b → (TJ7 a).2.1 ≠ (TJ7 b).2.1 := by decide +kernel
theorem tyJ7_ok : ∀ k, k < 0 → parseFieldDescriptor (TJ7 k).2.2.1 = some (tyJ7 k) := by decide +kernel
abbrev cJ7_fill_53178 : ByteArray := prog_14_method_103_code
def yJ7_fill_53178 : MethodName := ⟨RJ7, "fill", "([II)V"⟩
def RL : String := "TornPagesLaw"
abbrev cL_cell : ByteArray := method_2_code
def yL_cell : MethodName := ⟨RL, "cell", "([II)I"⟩
abbrev cL_back : ByteArray := method_3_code
def yL_back : MethodName := ⟨RL, "back", "(I)I"⟩
abbrev cL_turns : ByteArray := method_4_code
def yL_turns : MethodName := ⟨RL, "turns", "(LTornPages;I)Z"⟩
abbrev cL_holds : ByteArray := method_5_code
def yL_holds : MethodName := ⟨RL, "holds", "(LTornPages;)Z"⟩
abbrev cL_law : ByteArray := code
def yL_law : MethodName := ⟨RL, "law", "([I)Z"⟩
abbrev vwCl : List vw_C := [(RX0, TX0, 2), (RX1, TX1, 3), (RX2, TX2, 2), (RX3, TX3, 3), (RX4, TX4, 5), (RX5, TX5, 1), (RX6, TX6, 4), (RX7, TX7, 5), (RX8, TX8, 6)]
