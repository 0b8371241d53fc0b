/-! ===== BEGIN words of one list among another's, by their places ===== -/
theorem goodIn_r {big : List Cond} (ws : List Cond) (ps : List Nat) (hp : ws = ps.filterMap (fun i => big[i]?)) (h : ws.all goodWord = true) : GoodIn big ws := by
  intro w hw
  have h1 := List.all_eq_true.mp h w hw
  rw [hp] at hw
  obtain ⟨i, -, hi⟩ := List.mem_filterMap.mp hw
  have hm : w ∈ big := by first | exact List.mem_of_getElem? hi | exact List.getElem?_mem hi
  exact ⟨hm, good_of_word h1⟩
theorem goodIn_app {big a b : List Cond} (ha : GoodIn big a) (hb : GoodIn big b) : GoodIn big (a ++ b) := fun w h => (List.mem_append.mp h).elim (ha w) (hb w)
theorem goodIn_ca {big a b : List Cond} {c : Cond} (ha : GoodIn big (c :: a)) (hb : GoodIn big b) : GoodIn big (c :: (a ++ b)) := fun w h => (List.mem_cons.mp h).elim (fun e => ha w (List.mem_cons.mpr (Or.inl e))) (fun h => (List.mem_append.mp h).elim (fun h => ha w (List.mem_cons.mpr (Or.inr h))) (hb w))
theorem goodIn_sub {big ws : List Cond} (hm : ∀ w ∈ ws, w ∈ big) (h : ws.all goodWord = true) : GoodIn big ws := fun w hw => ⟨hm w hw, good_of_word (List.all_eq_true.mp h w hw)⟩
/-! ===== END ===== -/

/-! ===== BEGIN printed: names, fields, word lists, decode rows ===== -/
def RX0 : String := "FlowCodes$Aims"
def TX0 : u_T := fun k => match k with
  | 0 => ("FlowCodes$Aims", "codes", "[I", true)
  | _ => ("FlowCodes$Aims", "bits", "I", false)
def tyX0 : Nat → FieldType := fun k => match k with
  | 0 => .array .int
  | _ => .int
abbrev wsX00 : List Cond := u_ws RX0 TX0 2
theorem nmX0 : ∀ a, a < 2 → ∀ b, b < 2 → a ≠ b → (TX0 a).2.1 ≠ (TX0 b).2.1 := by decide +kernel
theorem tyX0_ok : ∀ k, k < 2 → parseFieldDescriptor (TX0 k).2.2.1 = some (tyX0 k) := by decide +kernel
abbrev cX0_init : ByteArray := prog_2_method_1_code
def yX0_init : MethodName := ⟨RX0, "<init>", "()V"⟩
abbrev cX0_points : ByteArray := prog_2_method_2_code
def yX0_points : MethodName := ⟨RX0, "points", "()I"⟩
abbrev cX0_chart : ByteArray := prog_2_method_3_code
def yX0_chart : MethodName := ⟨RX0, "chart", "(LFlowCodes$Flow;LFlowCodes$SignalCode;)V"⟩
abbrev cX0_chartWay : ByteArray := prog_2_method_4_code
def yX0_chartWay : MethodName := ⟨RX0, "chartWay", "(III)V"⟩
abbrev cX0_at : ByteArray := prog_2_method_5_code
def yX0_at : MethodName := ⟨RX0, "at", "(II)I"⟩
abbrev cX0_pointsWith : ByteArray := prog_2_method_6_code
def yX0_pointsWith : MethodName := ⟨RX0, "pointsWith", "(II)I"⟩
def RX1 : String := "FlowCodes$Cubes"
def TX1 : u_T := fun k => match k with
  | 0 => ("FlowCodes$Cubes", "seen", "[B", true)
  | 1 => ("FlowCodes$Cubes", "inThrees", "[I", true)
  | _ => ("FlowCodes$Cubes", "all", "I", false)
def tyX1 : Nat → FieldType := fun k => match k with
  | 0 => .array .byte
  | 1 => .array .int
  | _ => .int
abbrev wsX10 : List Cond := u_ws RX1 TX1 3
theorem nmX1 : ∀ a, a < 3 → ∀ b, b < 3 → a ≠ b → (TX1 a).2.1 ≠ (TX1 b).2.1 := by decide +kernel
theorem tyX1_ok : ∀ k, k < 3 → parseFieldDescriptor (TX1 k).2.2.1 = some (tyX1 k) := by decide +kernel
abbrev cX1_init : ByteArray := prog_3_method_1_code
def yX1_init : MethodName := ⟨RX1, "<init>", "()V"⟩
abbrev cX1_indexOf : ByteArray := prog_3_method_2_code
def yX1_indexOf : MethodName := ⟨RX1, "indexOf", "(II)I"⟩
abbrev cX1_look : ByteArray := prog_3_method_3_code
def yX1_look : MethodName := ⟨RX1, "look", "(LFlowCodes$Aims;I)V"⟩
abbrev cX1_seenAtPoint : ByteArray := prog_3_method_4_code
def yX1_seenAtPoint : MethodName := ⟨RX1, "seenAtPoint", "(I)I"⟩
abbrev cX1_isWide : ByteArray := prog_3_method_5_code
def yX1_isWide : MethodName := ⟨RX1, "isWide", "(II)Z"⟩
def RX2 : String := "FlowCodes$Flow"
def TX2 : u_T := fun k => match k with
  | 0 => ("FlowCodes$Flow", "entries", "[I", true)
  | 1 => ("FlowCodes$Flow", "states", "I", false)
  | 2 => ("FlowCodes$Flow", "columns", "I", false)
  | 3 => ("FlowCodes$Flow", "moves", "I", false)
  | 4 => ("FlowCodes$Flow", "stables", "I", false)
  | 5 => ("FlowCodes$Flow", "amiss", "I", false)
  | _ => ("FlowCodes$Flow", "normal", "Z", false)
def tyX2 : Nat → FieldType := fun k => match k with
  | 0 => .array .int
  | 1 => .int
  | 2 => .int
  | 3 => .int
  | 4 => .int
  | 5 => .int
  | _ => .boolean
abbrev wsX20 : List Cond := u_ws RX2 TX2 7
theorem nmX2 : ∀ a, a < 7 → ∀ b, b < 7 → a ≠ b → (TX2 a).2.1 ≠ (TX2 b).2.1 := by decide +kernel
theorem tyX2_ok : ∀ k, k < 7 → parseFieldDescriptor (TX2 k).2.2.1 = some (tyX2 k) := by decide +kernel
abbrev cX2_init : ByteArray := prog_4_method_1_code
def yX2_init : MethodName := ⟨RX2, "<init>", "()V"⟩
abbrev cX2_read : ByteArray := prog_4_method_2_code
def yX2_read : MethodName := ⟨RX2, "read", "(LFlowCodes$Page;)V"⟩
abbrev cX2_inspect : ByteArray := prog_4_method_3_code
def yX2_inspect : MethodName := ⟨RX2, "inspect", "()V"⟩
abbrev cX2_inspectEntry : ByteArray := prog_4_method_4_code
def yX2_inspectEntry : MethodName := ⟨RX2, "inspectEntry", "(II)V"⟩
abbrev cX2_hasState : ByteArray := prog_4_method_5_code
def yX2_hasState : MethodName := ⟨RX2, "hasState", "(I)Z"⟩
abbrev cX2_hasColumn : ByteArray := prog_4_method_6_code
def yX2_hasColumn : MethodName := ⟨RX2, "hasColumn", "(I)Z"⟩
abbrev cX2_next : ByteArray := prog_4_method_7_code
def yX2_next : MethodName := ⟨RX2, "next", "(II)I"⟩
abbrev cX2_allStates : ByteArray := prog_4_method_8_code
def yX2_allStates : MethodName := ⟨RX2, "allStates", "()I"⟩
def RX3 : String := "FlowCodes$LeastCode"
def TX3 : u_T := fun k => match k with
  | 0 => ("FlowCodes$LeastCode", "signals", "[I", true)
  | 1 => ("FlowCodes$LeastCode", "kept", "[J", true)
  | 2 => ("FlowCodes$LeastCode", "keptFrom", "[J", true)
  | 3 => ("FlowCodes$LeastCode", "candidates", "I", false)
  | _ => ("FlowCodes$LeastCode", "size", "I", false)
def tyX3 : Nat → FieldType := fun k => match k with
  | 0 => .array .int
  | 1 => .array .long
  | 2 => .array .long
  | 3 => .int
  | _ => .int
abbrev wsX30 : List Cond := u_ws RX3 TX3 5
theorem nmX3 : ∀ a, a < 5 → ∀ b, b < 5 → a ≠ b → (TX3 a).2.1 ≠ (TX3 b).2.1 := by decide +kernel
theorem tyX3_ok : ∀ k, k < 5 → parseFieldDescriptor (TX3 k).2.2.1 = some (tyX3 k) := by decide +kernel
abbrev cX3_init : ByteArray := prog_5_method_1_code
def yX3_init : MethodName := ⟨RX3, "<init>", "()V"⟩
abbrev cX3_forget : ByteArray := prog_5_method_2_code
def yX3_forget : MethodName := ⟨RX3, "forget", "()V"⟩
abbrev cX3_find : ByteArray := prog_5_method_3_code
def yX3_find : MethodName := ⟨RX3, "find", "(ILFlowCodes$Partings;)V"⟩
abbrev cX3_prepare : ByteArray := prog_5_method_4_code
def yX3_prepare : MethodName := ⟨RX3, "prepare", "(ILFlowCodes$Partings;)V"⟩
abbrev cX3_fill : ByteArray := prog_5_method_5_code
def yX3_fill : MethodName := ⟨RX3, "fill", "(IIIJ)Z"⟩
def RX4 : String := "FlowCodes$Logic"
def TX4 : u_T := fun k => match k with
  | 0 => ("FlowCodes$Logic", "asked", "[I", true)
  | 1 => ("FlowCodes$Logic", "ones", "[I", true)
  | 2 => ("FlowCodes$Logic", "sum", "[I", true)
  | 3 => ("FlowCodes$Logic", "wideSize", "I", false)
  | 4 => ("FlowCodes$Logic", "sumSize", "I", false)
  | 5 => ("FlowCodes$Logic", "flickers", "I", false)
  | _ => ("FlowCodes$Logic", "ready", "Z", false)
def tyX4 : Nat → FieldType := fun k => match k with
  | 0 => .array .int
  | 1 => .array .int
  | 2 => .array .int
  | 3 => .int
  | 4 => .int
  | 5 => .int
  | _ => .boolean
abbrev wsX40 : List Cond := u_ws RX4 TX4 7
theorem nmX4 : ∀ a, a < 7 → ∀ b, b < 7 → a ≠ b → (TX4 a).2.1 ≠ (TX4 b).2.1 := by decide +kernel
theorem tyX4_ok : ∀ k, k < 7 → parseFieldDescriptor (TX4 k).2.2.1 = some (tyX4 k) := by decide +kernel
abbrev cX4_init : ByteArray := prog_6_method_1_code
def yX4_init : MethodName := ⟨RX4, "<init>", "()V"⟩
abbrev cX4_collectWide : ByteArray := prog_6_method_2_code
def yX4_collectWide : MethodName := ⟨RX4, "collectWide", "(LFlowCodes$Cubes;)V"⟩
abbrev cX4_collectSum : ByteArray := prog_6_method_3_code
def yX4_collectSum : MethodName := ⟨RX4, "collectSum", "(LFlowCodes$Aims;I)V"⟩
abbrev cX4_cover : ByteArray := prog_6_method_4_code
def yX4_cover : MethodName := ⟨RX4, "cover", "(II)V"⟩
abbrev cX4_hasBoth : ByteArray := prog_6_method_5_code
def yX4_hasBoth : MethodName := ⟨RX4, "hasBoth", "(III)Z"⟩
abbrev cX4_askedInSum : ByteArray := prog_6_method_6_code
def yX4_askedInSum : MethodName := ⟨RX4, "askedInSum", "()I"⟩
abbrev cX4_ofSum : ByteArray := prog_6_method_7_code
def yX4_ofSum : MethodName := ⟨RX4, "ofSum", "(II)I"⟩
abbrev cX4_ofWide : ByteArray := prog_6_method_8_code
def yX4_ofWide : MethodName := ⟨RX4, "ofWide", "(II)I"⟩
def RX5 : String := "FlowCodes$Page"
def TX5 : u_T := fun k => match k with
  | 0 => ("FlowCodes$Page", "letters", "[C", true)
  | 1 => ("FlowCodes$Page", "size", "I", false)
  | 2 => ("FlowCodes$Page", "fault", "I", false)
  | 3 => ("FlowCodes$Page", "rows", "I", false)
  | 4 => ("FlowCodes$Page", "inRow", "I", false)
  | _ => ("FlowCodes$Page", "width", "I", false)
def tyX5 : Nat → FieldType := fun k => match k with
  | 0 => .array .char
  | 1 => .int
  | 2 => .int
  | 3 => .int
  | 4 => .int
  | _ => .int
abbrev wsX50 : List Cond := u_ws RX5 TX5 6
theorem nmX5 : ∀ a, a < 6 → ∀ b, b < 6 → a ≠ b → (TX5 a).2.1 ≠ (TX5 b).2.1 := by decide +kernel
theorem tyX5_ok : ∀ k, k < 6 → parseFieldDescriptor (TX5 k).2.2.1 = some (tyX5 k) := by decide +kernel
abbrev cX5_init : ByteArray := prog_7_method_1_code
def yX5_init : MethodName := ⟨RX5, "<init>", "()V"⟩
abbrev cX5_append : ByteArray := prog_7_method_2_code
def yX5_append : MethodName := ⟨RX5, "append", "(I)Z"⟩
abbrev cX5_at : ByteArray := prog_7_method_3_code
def yX5_at : MethodName := ⟨RX5, "at", "(I)I"⟩
abbrev cX5_scan : ByteArray := prog_7_method_4_code
def yX5_scan : MethodName := ⟨RX5, "scan", "()V"⟩
abbrev cX5_fits : ByteArray := prog_7_method_5_code
def yX5_fits : MethodName := ⟨RX5, "fits", "(C)Z"⟩
abbrev cX5_endsRow : ByteArray := prog_7_method_6_code
def yX5_endsRow : MethodName := ⟨RX5, "endsRow", "()Z"⟩
abbrev cX5_isTable : ByteArray := prog_7_method_7_code
def yX5_isTable : MethodName := ⟨RX5, "isTable", "()Z"⟩
abbrev cX5_stateAt : ByteArray := prog_7_method_8_code
def yX5_stateAt : MethodName := ⟨RX5, "stateAt", "(II)I"⟩
abbrev cX5_stateOf : ByteArray := prog_7_method_9_code
def yX5_stateOf : MethodName := ⟨RX5, "stateOf", "(C)I"⟩
def RX6 : String := "FlowCodes$Partings"
def TX6 : u_T := fun k => match k with
  | 0 => ("FlowCodes$Partings", "lessers", "[I", true)
  | 1 => ("FlowCodes$Partings", "greaters", "[I", true)
  | _ => ("FlowCodes$Partings", "size", "I", false)
def tyX6 : Nat → FieldType := fun k => match k with
  | 0 => .array .int
  | 1 => .array .int
  | _ => .int
abbrev wsX60 : List Cond := u_ws RX6 TX6 3
theorem nmX6 : ∀ a, a < 3 → ∀ b, b < 3 → a ≠ b → (TX6 a).2.1 ≠ (TX6 b).2.1 := by decide +kernel
theorem tyX6_ok : ∀ k, k < 3 → parseFieldDescriptor (TX6 k).2.2.1 = some (tyX6 k) := by decide +kernel
abbrev cX6_init : ByteArray := prog_8_method_1_code
def yX6_init : MethodName := ⟨RX6, "<init>", "()V"⟩
abbrev cX6_empty : ByteArray := prog_8_method_2_code
def yX6_empty : MethodName := ⟨RX6, "empty", "()V"⟩
abbrev cX6_lesser : ByteArray := prog_8_method_3_code
def yX6_lesser : MethodName := ⟨RX6, "lesser", "(I)I"⟩
abbrev cX6_greater : ByteArray := prog_8_method_4_code
def yX6_greater : MethodName := ⟨RX6, "greater", "(I)I"⟩
abbrev cX6_gather : ByteArray := prog_8_method_5_code
def yX6_gather : MethodName := ⟨RX6, "gather", "(LFlowCodes$Flow;)V"⟩
abbrev cX6_offerMoves : ByteArray := prog_8_method_6_code
def yX6_offerMoves : MethodName := ⟨RX6, "offerMoves", "(LFlowCodes$Flow;III)V"⟩
abbrev cX6_offer : ByteArray := prog_8_method_7_code
def yX6_offer : MethodName := ⟨RX6, "offer", "(II)V"⟩
abbrev cX6_dropInside : ByteArray := prog_8_method_8_code
def yX6_dropInside : MethodName := ⟨RX6, "dropInside", "(II)V"⟩
abbrev cX6_insert : ByteArray := prog_8_method_9_code
def yX6_insert : MethodName := ⟨RX6, "insert", "(II)V"⟩
abbrev cX6_isBehind : ByteArray := prog_8_method_10_code
def yX6_isBehind : MethodName := ⟨RX6, "isBehind", "(III)Z"⟩
abbrev cX6_isInside : ByteArray := prog_8_method_11_code
def yX6_isInside : MethodName := ⟨RX6, "isInside", "(IIII)Z"⟩
abbrev cX6_isKeptBy : ByteArray := prog_8_method_12_code
def yX6_isKeptBy : MethodName := ⟨RX6, "isKeptBy", "(II)Z"⟩
def RX7 : String := "FlowCodes$SignalCode"
def TX7 : u_T := fun k => match k with
  | 0 => ("FlowCodes$SignalCode", "signals", "[I", true)
  | 1 => ("FlowCodes$SignalCode", "codes", "[I", true)
  | _ => ("FlowCodes$SignalCode", "size", "I", false)
def tyX7 : Nat → FieldType := fun k => match k with
  | 0 => .array .int
  | 1 => .array .int
  | _ => .int
abbrev wsX70 : List Cond := u_ws RX7 TX7 3
theorem nmX7 : ∀ a, a < 3 → ∀ b, b < 3 → a ≠ b → (TX7 a).2.1 ≠ (TX7 b).2.1 := by decide +kernel
theorem tyX7_ok : ∀ k, k < 3 → parseFieldDescriptor (TX7 k).2.2.1 = some (tyX7 k) := by decide +kernel
abbrev cX7_init : ByteArray := prog_9_method_1_code
def yX7_init : MethodName := ⟨RX7, "<init>", "()V"⟩
abbrev cX7_empty : ByteArray := prog_9_method_2_code
def yX7_empty : MethodName := ⟨RX7, "empty", "()V"⟩
abbrev cX7_add : ByteArray := prog_9_method_3_code
def yX7_add : MethodName := ⟨RX7, "add", "(I)Z"⟩
abbrev cX7_take : ByteArray := prog_9_method_4_code
def yX7_take : MethodName := ⟨RX7, "take", "(LFlowCodes$LeastCode;)V"⟩
abbrev cX7_codeOf : ByteArray := prog_9_method_5_code
def yX7_codeOf : MethodName := ⟨RX7, "codeOf", "(I)I"⟩
abbrev cX7_changesBetween : ByteArray := prog_9_method_6_code
def yX7_changesBetween : MethodName := ⟨RX7, "changesBetween", "(II)I"⟩
abbrev cX7_keepersOf : ByteArray := prog_9_method_7_code
def yX7_keepersOf : MethodName := ⟨RX7, "keepersOf", "(LFlowCodes$Partings;I)I"⟩
abbrev cX7_countUnkept : ByteArray := prog_9_method_8_code
def yX7_countUnkept : MethodName := ⟨RX7, "countUnkept", "(LFlowCodes$Partings;)I"⟩
abbrev cX7_countWild : ByteArray := prog_9_method_9_code
def yX7_countWild : MethodName := ⟨RX7, "countWild", "(LFlowCodes$Flow;)I"⟩
abbrev cX7_firstWild : ByteArray := prog_9_method_10_code
def yX7_firstWild : MethodName := ⟨RX7, "firstWild", "(LFlowCodes$Flow;)I"⟩
abbrev cX7_isWild : ByteArray := prog_9_method_11_code
def yX7_isWild : MethodName := ⟨RX7, "isWild", "(LFlowCodes$Flow;II)Z"⟩
abbrev cX7_waysMeet : ByteArray := prog_9_method_12_code
def yX7_waysMeet : MethodName := ⟨RX7, "waysMeet", "(IIII)Z"⟩
abbrev cX7_mostChanges : ByteArray := prog_9_method_13_code
def yX7_mostChanges : MethodName := ⟨RX7, "mostChanges", "(LFlowCodes$Flow;)I"⟩
def RX8 : String := "FlowCodes$Walker"
def TX8 : u_T := fun k => match k with
  | 0 => ("FlowCodes$Walker", "at", "I", false)
  | 1 => ("FlowCodes$Walker", "turns", "I", false)
  | _ => ("FlowCodes$Walker", "changes", "I", false)
def tyX8 : Nat → FieldType := fun k => match k with
  | 0 => .int
  | 1 => .int
  | _ => .int
abbrev wsX80 : List Cond := u_ws RX8 TX8 3
theorem nmX8 : ∀ a, a < 3 → ∀ b, b < 3 → a ≠ b → (TX8 a).2.1 ≠ (TX8 b).2.1 := by decide +kernel
theorem tyX8_ok : ∀ k, k < 3 → parseFieldDescriptor (TX8 k).2.2.1 = some (tyX8 k) := by decide +kernel
abbrev cX8_init : ByteArray := prog_10_method_1_code
def yX8_init : MethodName := ⟨RX8, "<init>", "()V"⟩
abbrev cX8_start : ByteArray := prog_10_method_2_code
def yX8_start : MethodName := ⟨RX8, "start", "(I)V"⟩
abbrev cX8_go : ByteArray := prog_10_method_3_code
def yX8_go : MethodName := ⟨RX8, "go", "(II)V"⟩
def RX9 : String := "FlowCodes"
def TX9 : u_T := fun k => match k with
  | 0 => ("FlowCodes", "page", "LFlowCodes$Page;", true)
  | 1 => ("FlowCodes", "flow", "LFlowCodes$Flow;", true)
  | 2 => ("FlowCodes", "partings", "LFlowCodes$Partings;", true)
  | 3 => ("FlowCodes", "leastCode", "LFlowCodes$LeastCode;", true)
  | 4 => ("FlowCodes", "theCode", "LFlowCodes$SignalCode;", true)
  | 5 => ("FlowCodes", "aims", "LFlowCodes$Aims;", true)
  | 6 => ("FlowCodes", "cubes", "LFlowCodes$Cubes;", true)
  | 7 => ("FlowCodes", "logics", "[LFlowCodes$Logic;", true)
  | 8 => ("FlowCodes", "walker", "LFlowCodes$Walker;", true)
  | 9 => ("FlowCodes", "unkept", "I", false)
  | _ => ("FlowCodes", "tablesRead", "I", false)
def tyX9 : Nat → FieldType := fun k => match k with
  | 0 => .object "FlowCodes$Page"
  | 1 => .object "FlowCodes$Flow"
  | 2 => .object "FlowCodes$Partings"
  | 3 => .object "FlowCodes$LeastCode"
  | 4 => .object "FlowCodes$SignalCode"
  | 5 => .object "FlowCodes$Aims"
  | 6 => .object "FlowCodes$Cubes"
  | 7 => .array (.object "FlowCodes$Logic")
  | 8 => .object "FlowCodes$Walker"
  | 9 => .int
  | _ => .int
abbrev wsX90 : List Cond := u_ws RX9 TX9 11
theorem nmX9 : ∀ a, a < 11 → ∀ b, b < 11 → a ≠ b → (TX9 a).2.1 ≠ (TX9 b).2.1 := by decide +kernel
theorem tyX9_ok : ∀ k, k < 11 → parseFieldDescriptor (TX9 k).2.2.1 = some (tyX9 k) := by decide +kernel
abbrev cX9_init : ByteArray := prog_1_method_1_code
def yX9_init : MethodName := ⟨RX9, "<init>", "()V"⟩
abbrev cX9_letter : ByteArray := prog_1_method_2_code
def yX9_letter : MethodName := ⟨RX9, "letter", "(I)I"⟩
abbrev cX9_blank : ByteArray := prog_1_method_3_code
def yX9_blank : MethodName := ⟨RX9, "blank", "()I"⟩
abbrev cX9_fault : ByteArray := prog_1_method_4_code
def yX9_fault : MethodName := ⟨RX9, "fault", "()I"⟩
abbrev cX9_table : ByteArray := prog_1_method_5_code
def yX9_table : MethodName := ⟨RX9, "table", "()I"⟩
abbrev cX9_entry : ByteArray := prog_1_method_6_code
def yX9_entry : MethodName := ⟨RX9, "entry", "(II)I"⟩
abbrev cX9_about : ByteArray := prog_1_method_7_code
def yX9_about : MethodName := ⟨RX9, "about", "(I)I"⟩
abbrev cX9_parting : ByteArray := prog_1_method_8_code
def yX9_parting : MethodName := ⟨RX9, "parting", "(II)I"⟩
abbrev cX9_least : ByteArray := prog_1_method_9_code
def yX9_least : MethodName := ⟨RX9, "least", "(I)I"⟩
abbrev cX9_put : ByteArray := prog_1_method_10_code
def yX9_put : MethodName := ⟨RX9, "put", "(I)I"⟩
abbrev cX9_clear : ByteArray := prog_1_method_11_code
def yX9_clear : MethodName := ⟨RX9, "clear", "()I"⟩
abbrev cX9_code : ByteArray := prog_1_method_12_code
def yX9_code : MethodName := ⟨RX9, "code", "(I)I"⟩
abbrev cX9_coded : ByteArray := prog_1_method_13_code
def yX9_coded : MethodName := ⟨RX9, "coded", "(I)I"⟩
abbrev cX9_wanted : ByteArray := prog_1_method_14_code
def yX9_wanted : MethodName := ⟨RX9, "wanted", "(II)I"⟩
abbrev cX9_logic : ByteArray := prog_1_method_15_code
def yX9_logic : MethodName := ⟨RX9, "logic", "(II)I"⟩
abbrev cX9_product : ByteArray := prog_1_method_16_code
def yX9_product : MethodName := ⟨RX9, "product", "(III)I"⟩
abbrev cX9_wide : ByteArray := prog_1_method_17_code
def yX9_wide : MethodName := ⟨RX9, "wide", "(III)I"⟩
abbrev cX9_walk : ByteArray := prog_1_method_18_code
def yX9_walk : MethodName := ⟨RX9, "walk", "(I)I"⟩
abbrev cX9_turn : ByteArray := prog_1_method_19_code
def yX9_turn : MethodName := ⟨RX9, "turn", "(I)I"⟩
abbrev cX9_count : ByteArray := prog_1_method_20_code
def yX9_count : MethodName := ⟨RX9, "count", "(I)I"⟩
abbrev cX9_digest : ByteArray := prog_1_method_21_code
def yX9_digest : MethodName := ⟨RX9, "digest", "()J"⟩
abbrev cX9_mixed : ByteArray := prog_1_method_22_code
def yX9_mixed : MethodName := ⟨RX9, "mixed", "(JI)J"⟩
abbrev cX9_mixedCode : ByteArray := prog_1_method_23_code
def yX9_mixedCode : MethodName := ⟨RX9, "mixedCode", "(J)J"⟩
abbrev cX9_mixedLogic : ByteArray := prog_1_method_24_code
def yX9_mixedLogic : MethodName := ⟨RX9, "mixedLogic", "(JI)J"⟩
abbrev cX9_isGood : ByteArray := prog_1_method_25_code
def yX9_isGood : MethodName := ⟨RX9, "isGood", "()Z"⟩
abbrev cX9_refusalOf : ByteArray := prog_1_method_26_code
def yX9_refusalOf : MethodName := ⟨RX9, "refusalOf", "(I)I"⟩
abbrev cX9_settle : ByteArray := prog_1_method_27_code
def yX9_settle : MethodName := ⟨RX9, "settle", "()V"⟩
abbrev cX9_workedOut : ByteArray := prog_1_method_28_code
def yX9_workedOut : MethodName := ⟨RX9, "workedOut", "(I)LFlowCodes$Logic;"⟩
def RX10 : String := "FlowCodesModel"
def TX10 : u_T := fun k => match k with
  | 0 => ("FlowCodesModel", "pageLength", "I", false)
  | 1 => ("FlowCodesModel", "page", "[I", true)
  | 2 => ("FlowCodesModel", "states", "I", false)
  | 3 => ("FlowCodesModel", "columns", "I", false)
  | 4 => ("FlowCodesModel", "entries", "[I", true)
  | 5 => ("FlowCodesModel", "signals", "I", false)
  | 6 => ("FlowCodesModel", "signalAt", "[I", true)
  | 7 => ("FlowCodesModel", "walksAt", "I", false)
  | 8 => ("FlowCodesModel", "turned", "I", false)
  | 9 => ("FlowCodesModel", "changed", "I", false)
  | 10 => ("FlowCodesModel", "read", "I", false)
  | 11 => ("FlowCodesModel", "newRows", "I", false)
  | 12 => ("FlowCodesModel", "newEntries", "I", false)
  | 13 => ("FlowCodesModel", "newColumns", "I", false)
  | 14 => ("FlowCodesModel", "greatest", "I", false)
  | 15 => ("FlowCodesModel", "newAt", "[I", true)
  | 16 => ("FlowCodesModel", "partings", "I", false)
  | 17 => ("FlowCodesModel", "lowSet", "[I", true)
  | 18 => ("FlowCodesModel", "highSet", "[I", true)
  | 19 => ("FlowCodesModel", "leastMany", "I", false)
  | 20 => ("FlowCodesModel", "leastAt", "[I", true)
  | 21 => ("FlowCodesModel", "tried", "[I", true)
  | 22 => ("FlowCodesModel", "keptLow", "[J", true)
  | 23 => ("FlowCodesModel", "keptHigh", "[J", true)
  | 24 => ("FlowCodesModel", "laid", "I", false)
  | 25 => ("FlowCodesModel", "wants", "[I", true)
  | 26 => ("FlowCodesModel", "wide", "I", false)
  | 27 => ("FlowCodesModel", "wideAsked", "[I", true)
  | 28 => ("FlowCodesModel", "wideOnes", "[I", true)
  | 29 => ("FlowCodesModel", "sum", "I", false)
  | 30 => ("FlowCodesModel", "flickers", "I", false)
  | 31 => ("FlowCodesModel", "sumAt", "[I", true)
  | _ => ("FlowCodesModel", "h", "J", false)
def tyX10 : Nat → FieldType := fun k => match k with
  | 0 => .int
  | 1 => .array .int
  | 2 => .int
  | 3 => .int
  | 4 => .array .int
  | 5 => .int
  | 6 => .array .int
  | 7 => .int
  | 8 => .int
  | 9 => .int
  | 10 => .int
  | 11 => .int
  | 12 => .int
  | 13 => .int
  | 14 => .int
  | 15 => .array .int
  | 16 => .int
  | 17 => .array .int
  | 18 => .array .int
  | 19 => .int
  | 20 => .array .int
  | 21 => .array .int
  | 22 => .array .long
  | 23 => .array .long
  | 24 => .int
  | 25 => .array .int
  | 26 => .int
  | 27 => .array .int
  | 28 => .array .int
  | 29 => .int
  | 30 => .int
  | 31 => .array .int
  | _ => .long
abbrev wsX100 : List Cond := u_ws RX10 TX10 33
theorem nmX10 : ∀ a, a < 33 → ∀ b, b < 33 → a ≠ b → (TX10 a).2.1 ≠ (TX10 b).2.1 := by decide +kernel
theorem tyX10_ok : ∀ k, k < 33 → parseFieldDescriptor (TX10 k).2.2.1 = some (tyX10 k) := by decide +kernel
abbrev cX10_init : ByteArray := prog_12_method_1_code
def yX10_init : MethodName := ⟨RX10, "<init>", "()V"⟩
abbrev cX10_within : ByteArray := prog_12_method_3_code
def yX10_within : MethodName := ⟨RX10, "within", "(III)Z"⟩
abbrev cX10_ones : ByteArray := prog_12_method_4_code
def yX10_ones : MethodName := ⟨RX10, "ones", "(I)I"⟩
abbrev cX10_letter : ByteArray := prog_12_method_5_code
def yX10_letter : MethodName := ⟨RX10, "letter", "(I)I"⟩
abbrev cX10_blank : ByteArray := prog_12_method_6_code
def yX10_blank : MethodName := ⟨RX10, "blank", "()I"⟩
abbrev cX10_takes : ByteArray := prog_12_method_7_code
def yX10_takes : MethodName := ⟨RX10, "takes", "(I)Z"⟩
abbrev cX10_readPage : ByteArray := prog_12_method_8_code
def yX10_readPage : MethodName := ⟨RX10, "readPage", "()I"⟩
abbrev cX10_fault : ByteArray := prog_12_method_9_code
def yX10_fault : MethodName := ⟨RX10, "fault", "()I"⟩
abbrev cX10_table : ByteArray := prog_12_method_10_code
def yX10_table : MethodName := ⟨RX10, "table", "()I"⟩
abbrev cX10_entryAt : ByteArray := prog_12_method_11_code
def yX10_entryAt : MethodName := ⟨RX10, "entryAt", "(II)I"⟩
abbrev cX10_isEntry : ByteArray := prog_12_method_12_code
def yX10_isEntry : MethodName := ⟨RX10, "isEntry", "(II)Z"⟩
abbrev cX10_entry : ByteArray := prog_12_method_13_code
def yX10_entry : MethodName := ⟨RX10, "entry", "(II)I"⟩
abbrev cX10_amiss : ByteArray := prog_12_method_14_code
def yX10_amiss : MethodName := ⟨RX10, "amiss", "()I"⟩
abbrev cX10_isNormal : ByteArray := prog_12_method_15_code
def yX10_isNormal : MethodName := ⟨RX10, "isNormal", "()Z"⟩
abbrev cX10_movesMany : ByteArray := prog_12_method_16_code
def yX10_movesMany : MethodName := ⟨RX10, "movesMany", "(Z)I"⟩
abbrev cX10_aboutNow : ByteArray := prog_12_method_17_code
def yX10_aboutNow : MethodName := ⟨RX10, "aboutNow", "(I)I"⟩
abbrev cX10_about : ByteArray := prog_12_method_18_code
def yX10_about : MethodName := ⟨RX10, "about", "(I)I"⟩
abbrev cX10_isIn : ByteArray := prog_12_method_19_code
def yX10_isIn : MethodName := ⟨RX10, "isIn", "(IIII)Z"⟩
abbrev cX10_addParting : ByteArray := prog_12_method_20_code
def yX10_addParting : MethodName := ⟨RX10, "addParting", "(II)V"⟩
abbrev cX10_addOfColumn : ByteArray := prog_12_method_21_code
def yX10_addOfColumn : MethodName := ⟨RX10, "addOfColumn", "(III)V"⟩
abbrev cX10_layPartings : ByteArray := prog_12_method_22_code
def yX10_layPartings : MethodName := ⟨RX10, "layPartings", "()V"⟩
abbrev cX10_keeps : ByteArray := prog_12_method_23_code
def yX10_keeps : MethodName := ⟨RX10, "keeps", "(III)Z"⟩
abbrev cX10_keptBy : ByteArray := prog_12_method_24_code
def yX10_keptBy : MethodName := ⟨RX10, "keptBy", "(I)I"⟩
abbrev cX10_partingNow : ByteArray := prog_12_method_25_code
def yX10_partingNow : MethodName := ⟨RX10, "partingNow", "(II)I"⟩
abbrev cX10_parting : ByteArray := prog_12_method_26_code
def yX10_parting : MethodName := ⟨RX10, "parting", "(II)I"⟩
abbrev cX10_layKept : ByteArray := prog_12_method_27_code
def yX10_layKept : MethodName := ⟨RX10, "layKept", "()V"⟩
abbrev cX10_isTriedGood : ByteArray := prog_12_method_28_code
def yX10_isTriedGood : MethodName := ⟨RX10, "isTriedGood", "(I)Z"⟩
abbrev cX10_goesOn : ByteArray := prog_12_method_29_code
def yX10_goesOn : MethodName := ⟨RX10, "goesOn", "(I)Z"⟩
abbrev cX10_findLeast : ByteArray := prog_12_method_30_code
def yX10_findLeast : MethodName := ⟨RX10, "findLeast", "(I)Z"⟩
abbrev cX10_layLeast : ByteArray := prog_12_method_31_code
def yX10_layLeast : MethodName := ⟨RX10, "layLeast", "()V"⟩
abbrev cX10_leastNow : ByteArray := prog_12_method_32_code
def yX10_leastNow : MethodName := ⟨RX10, "leastNow", "(I)I"⟩
abbrev cX10_least : ByteArray := prog_12_method_33_code
def yX10_least : MethodName := ⟨RX10, "least", "(I)I"⟩
abbrev cX10_put : ByteArray := prog_12_method_34_code
def yX10_put : MethodName := ⟨RX10, "put", "(I)I"⟩
abbrev cX10_clear : ByteArray := prog_12_method_35_code
def yX10_clear : MethodName := ⟨RX10, "clear", "()I"⟩
abbrev cX10_codeOf : ByteArray := prog_12_method_36_code
def yX10_codeOf : MethodName := ⟨RX10, "codeOf", "(I)I"⟩
abbrev cX10_code : ByteArray := prog_12_method_37_code
def yX10_code : MethodName := ⟨RX10, "code", "(I)I"⟩
abbrev cX10_lost : ByteArray := prog_12_method_38_code
def yX10_lost : MethodName := ⟨RX10, "lost", "()I"⟩
abbrev cX10_isOnWay : ByteArray := prog_12_method_39_code
def yX10_isOnWay : MethodName := ⟨RX10, "isOnWay", "(III)Z"⟩
abbrev cX10_areMeeting : ByteArray := prog_12_method_40_code
def yX10_areMeeting : MethodName := ⟨RX10, "areMeeting", "(III)Z"⟩
abbrev cX10_isWild : ByteArray := prog_12_method_41_code
def yX10_isWild : MethodName := ⟨RX10, "isWild", "(II)Z"⟩
abbrev cX10_wildNow : ByteArray := prog_12_method_42_code
def yX10_wildNow : MethodName := ⟨RX10, "wildNow", "(Z)I"⟩
abbrev cX10_mostChange : ByteArray := prog_12_method_43_code
def yX10_mostChange : MethodName := ⟨RX10, "mostChange", "()I"⟩
abbrev cX10_isGood : ByteArray := prog_12_method_44_code
def yX10_isGood : MethodName := ⟨RX10, "isGood", "()Z"⟩
abbrev cX10_codedNow : ByteArray := prog_12_method_45_code
def yX10_codedNow : MethodName := ⟨RX10, "codedNow", "(I)I"⟩
abbrev cX10_coded : ByteArray := prog_12_method_46_code
def yX10_coded : MethodName := ⟨RX10, "coded", "(I)I"⟩
abbrev cX10_altered : ByteArray := prog_12_method_47_code
def yX10_altered : MethodName := ⟨RX10, "altered", "()V"⟩
abbrev cX10_points : ByteArray := prog_12_method_48_code
def yX10_points : MethodName := ⟨RX10, "points", "()I"⟩
abbrev cX10_wantedAt : ByteArray := prog_12_method_49_code
def yX10_wantedAt : MethodName := ⟨RX10, "wantedAt", "(II)I"⟩
abbrev cX10_wanted : ByteArray := prog_12_method_50_code
def yX10_wanted : MethodName := ⟨RX10, "wanted", "(II)I"⟩
abbrev cX10_has : ByteArray := prog_12_method_51_code
def yX10_has : MethodName := ⟨RX10, "has", "(III)Z"⟩
abbrev cX10_isClean : ByteArray := prog_12_method_52_code
def yX10_isClean : MethodName := ⟨RX10, "isClean", "(II)Z"⟩
abbrev cX10_hasOne : ByteArray := prog_12_method_53_code
def yX10_hasOne : MethodName := ⟨RX10, "hasOne", "(II)Z"⟩
abbrev cX10_isWide : ByteArray := prog_12_method_54_code
def yX10_isWide : MethodName := ⟨RX10, "isWide", "(II)Z"⟩
abbrev cX10_layWide : ByteArray := prog_12_method_55_code
def yX10_layWide : MethodName := ⟨RX10, "layWide", "()V"⟩
abbrev cX10_isSummed : ByteArray := prog_12_method_56_code
def yX10_isSummed : MethodName := ⟨RX10, "isSummed", "(II)Z"⟩
abbrev cX10_addSum : ByteArray := prog_12_method_57_code
def yX10_addSum : MethodName := ⟨RX10, "addSum", "(II)V"⟩
abbrev cX10_layFlickers : ByteArray := prog_12_method_58_code
def yX10_layFlickers : MethodName := ⟨RX10, "layFlickers", "(I)V"⟩
abbrev cX10_laySignal : ByteArray := prog_12_method_59_code
def yX10_laySignal : MethodName := ⟨RX10, "laySignal", "(I)V"⟩
abbrev cX10_asksAll : ByteArray := prog_12_method_60_code
def yX10_asksAll : MethodName := ⟨RX10, "asksAll", "()I"⟩
abbrev cX10_wantsMany : ByteArray := prog_12_method_61_code
def yX10_wantsMany : MethodName := ⟨RX10, "wantsMany", "(I)I"⟩
abbrev cX10_logicNow : ByteArray := prog_12_method_62_code
def yX10_logicNow : MethodName := ⟨RX10, "logicNow", "(II)I"⟩
abbrev cX10_logic : ByteArray := prog_12_method_63_code
def yX10_logic : MethodName := ⟨RX10, "logic", "(II)I"⟩
abbrev cX10_product : ByteArray := prog_12_method_64_code
def yX10_product : MethodName := ⟨RX10, "product", "(III)I"⟩
abbrev cX10_wide : ByteArray := prog_12_method_65_code
def yX10_wide : MethodName := ⟨RX10, "wide", "(III)I"⟩
abbrev cX10_walk : ByteArray := prog_12_method_66_code
def yX10_walk : MethodName := ⟨RX10, "walk", "(I)I"⟩
abbrev cX10_turn : ByteArray := prog_12_method_67_code
def yX10_turn : MethodName := ⟨RX10, "turn", "(I)I"⟩
abbrev cX10_howMany : ByteArray := prog_12_method_68_code
def yX10_howMany : MethodName := ⟨RX10, "howMany", "(I)I"⟩
abbrev cX10_count : ByteArray := prog_12_method_69_code
def yX10_count : MethodName := ⟨RX10, "count", "(I)I"⟩
abbrev cX10_mix : ByteArray := prog_12_method_70_code
def yX10_mix : MethodName := ⟨RX10, "mix", "(J)V"⟩
abbrev cX10_mixNormal : ByteArray := prog_12_method_71_code
def yX10_mixNormal : MethodName := ⟨RX10, "mixNormal", "()V"⟩
abbrev cX10_mixLogic : ByteArray := prog_12_method_72_code
def yX10_mixLogic : MethodName := ⟨RX10, "mixLogic", "(I)V"⟩
abbrev cX10_digest : ByteArray := prog_12_method_73_code
def yX10_digest : MethodName := ⟨RX10, "digest", "()J"⟩
def RJ6 : String := "java/lang/Integer"
def TJ6 : u_T := fun k => match k with
  | _ => ("", "", "", false)
def tyJ6 : Nat → FieldType := fun k => match k with
  | _ => .int
abbrev wsJ60 : List Cond := u_ws RJ6 TJ6 0
theorem nmJ6 : ∀ a, a < 0 → ∀ b, b < 0 → a ≠ b → (TJ6 a).2.1 ≠ (TJ6 b).2.1 := by decide +kernel
theorem tyJ6_ok : ∀ k, k < 0 → parseFieldDescriptor (TJ6 k).2.2.1 = some (tyJ6 k) := by decide +kernel
abbrev cJ6_bitCount_0f7a4 : ByteArray := prog_13_method_49_code
def yJ6_bitCount_0f7a4 : MethodName := ⟨RJ6, "bitCount", "(I)I"⟩
def RJ9 : String := "java/lang/Math"
def TJ9 : u_T := fun k => match k with
  | _ => ("", "", "", false)
def tyJ9 : Nat → FieldType := fun k => match k with
  | _ => .int
abbrev wsJ90 : List Cond := u_ws RJ9 TJ9 0
theorem nmJ9 : ∀ a, a < 0 → ∀ b, b < 0 → a ≠ b → (TJ9 a).2.1 ≠ (TJ9 b).2.1 := by decide +kernel
theorem tyJ9_ok : ∀ k, k < 0 → parseFieldDescriptor (TJ9 k).2.2.1 = some (tyJ9 k) := by decide +kernel
abbrev cJ9_max_7cf53 : ByteArray := prog_14_method_65_code
def yJ9_max_7cf53 : MethodName := ⟨RJ9, "max", "(II)I"⟩
abbrev cJ9_min_7cf53 : ByteArray := prog_14_method_69_code
def yJ9_min_7cf53 : MethodName := ⟨RJ9, "min", "(II)I"⟩
def RL : String := "FlowCodesLaw"
abbrev cL_law : ByteArray := code
def yL_law : MethodName := ⟨RL, "law", "([I)Z"⟩
def wsL_law_r1 : List Cond := [Cond.classLink RL 7 RX9, Cond.instantiable RX9 11, Cond.initialized RX9, Cond.classLink RL 10 RX10, Cond.instantiable RX10 33, Cond.initialized RX10, Cond.methodLink RL 9 yX9_init, Cond.instanceMethod yX9_init, Cond.code yX9_init cX9_init 2 none, Cond.methodLink RX9 3 objectInit, Cond.instanceMethod objectInit, Cond.code objectInit ⟨#[0xb1]⟩ 1 none, Cond.classLink RX9 9 RX5, Cond.instantiable RX5 6, Cond.initialized RX5, Cond.fieldLink RX9 12 "FlowCodes" "page" "LFlowCodes$Page;", Cond.classLink RX9 16 RX2, Cond.instantiable RX2 7, Cond.initialized RX2, Cond.fieldLink RX9 19 "FlowCodes" "flow" "LFlowCodes$Flow;", Cond.classLink RX9 23 RX6, Cond.instantiable RX6 3, Cond.initialized RX6, Cond.fieldLink RX9 26 "FlowCodes" "partings" "LFlowCodes$Partings;"]
def wsL_law_r2 : List Cond := [Cond.classLink RX9 30 RX3, Cond.instantiable RX3 5, Cond.initialized RX3, Cond.fieldLink RX9 33 "FlowCodes" "leastCode" "LFlowCodes$LeastCode;", Cond.classLink RX9 37 RX7, Cond.instantiable RX7 3, Cond.initialized RX7, Cond.fieldLink RX9 40 "FlowCodes" "theCode" "LFlowCodes$SignalCode;", Cond.classLink RX9 44 RX0, Cond.instantiable RX0 2, Cond.initialized RX0, Cond.fieldLink RX9 47 "FlowCodes" "aims" "LFlowCodes$Aims;", Cond.classLink RX9 51 RX1, Cond.instantiable RX1 3, Cond.initialized RX1, Cond.fieldLink RX9 54 "FlowCodes" "cubes" "LFlowCodes$Cubes;", Cond.classLink RX9 58 RX4, Cond.fieldLink RX9 60 "FlowCodes" "logics" "[LFlowCodes$Logic;", Cond.instantiable RX4 7, Cond.initialized RX4, Cond.classLink RX9 65 RX8, Cond.instantiable RX8 3, Cond.initialized RX8, Cond.fieldLink RX9 68 "FlowCodes" "walker" "LFlowCodes$Walker;"]
def wsL_law_r3 : List Cond := [Cond.fieldLink RX9 72 "FlowCodes" "unkept" "I", Cond.fieldLink RX9 76 "FlowCodes" "tablesRead" "I", Cond.methodLink RX9 11 yX5_init, Cond.instanceMethod yX5_init, Cond.code yX5_init cX5_init 1 none, Cond.methodLink RX5 3 objectInit, Cond.arrayClass .char, Cond.fieldLink RX5 9 "FlowCodes$Page" "letters" "[C", Cond.methodLink RX9 18 yX2_init, Cond.instanceMethod yX2_init, Cond.code yX2_init cX2_init 1 none, Cond.methodLink RX2 3 objectInit, Cond.arrayClass .int, Cond.fieldLink RX2 9 "FlowCodes$Flow" "entries" "[I", Cond.fieldLink RX2 15 "FlowCodes$Flow" "amiss" "I", Cond.methodLink RX9 25 yX6_init, Cond.instanceMethod yX6_init, Cond.code yX6_init cX6_init 1 none, Cond.methodLink RX6 3 objectInit, Cond.fieldLink RX6 11 "FlowCodes$Partings" "lessers" "[I", Cond.fieldLink RX6 15 "FlowCodes$Partings" "greaters" "[I", Cond.methodLink RX9 32 yX3_init, Cond.instanceMethod yX3_init, Cond.code yX3_init cX3_init 1 none]
def wsL_law_r4 : List Cond := [Cond.methodLink RX3 3 objectInit, Cond.fieldLink RX3 9 "FlowCodes$LeastCode" "signals" "[I", Cond.arrayClass .long, Cond.fieldLink RX3 15 "FlowCodes$LeastCode" "kept" "[J", Cond.fieldLink RX3 19 "FlowCodes$LeastCode" "keptFrom" "[J", Cond.methodLink RX9 39 yX7_init, Cond.instanceMethod yX7_init, Cond.code yX7_init cX7_init 1 none, Cond.methodLink RX7 3 objectInit, Cond.fieldLink RX7 9 "FlowCodes$SignalCode" "signals" "[I", Cond.fieldLink RX7 15 "FlowCodes$SignalCode" "codes" "[I", Cond.methodLink RX9 46 yX0_init, Cond.instanceMethod yX0_init, Cond.code yX0_init cX0_init 1 none, Cond.methodLink RX0 3 objectInit, Cond.fieldLink RX0 9 "FlowCodes$Aims" "codes" "[I", Cond.methodLink RX9 53 yX1_init, Cond.instanceMethod yX1_init, Cond.code yX1_init cX1_init 2 none, Cond.methodLink RX1 3 objectInit, Cond.arrayClass .byte, Cond.fieldLink RX1 11 "FlowCodes$Cubes" "seen" "[B", Cond.fieldLink RX1 15 "FlowCodes$Cubes" "inThrees" "[I", Cond.methodLink RX9 64 yX4_init]
def wsL_law_r5 : List Cond := [Cond.instanceMethod yX4_init, Cond.code yX4_init cX4_init 1 none, Cond.methodLink RX4 3 objectInit, Cond.fieldLink RX4 11 "FlowCodes$Logic" "asked" "[I", Cond.fieldLink RX4 15 "FlowCodes$Logic" "ones" "[I", Cond.fieldLink RX4 18 "FlowCodes$Logic" "sum" "[I", Cond.methodLink RX9 67 yX8_init, Cond.instanceMethod yX8_init, Cond.code yX8_init cX8_init 1 none, Cond.methodLink RX8 3 objectInit, Cond.fieldLink RX8 9 "FlowCodes$Walker" "at" "I", Cond.methodLink RL 12 yX10_init, Cond.instanceMethod yX10_init, Cond.code yX10_init cX10_init 1 none, Cond.methodLink RX10 1 objectInit, Cond.fieldLink RX10 7 "FlowCodesModel" "page" "[I", Cond.fieldLink RX10 13 "FlowCodesModel" "entries" "[I", Cond.fieldLink RX10 16 "FlowCodesModel" "signalAt" "[I", Cond.fieldLink RX10 19 "FlowCodesModel" "walksAt" "I", Cond.fieldLink RX10 23 "FlowCodesModel" "newAt" "[I", Cond.fieldLink RX10 26 "FlowCodesModel" "lowSet" "[I", Cond.fieldLink RX10 29 "FlowCodesModel" "highSet" "[I", Cond.fieldLink RX10 32 "FlowCodesModel" "leastMany" "I", Cond.fieldLink RX10 35 "FlowCodesModel" "leastAt" "[I"]
def wsL_law_r6 : List Cond := [Cond.fieldLink RX10 38 "FlowCodesModel" "tried" "[I", Cond.fieldLink RX10 41 "FlowCodesModel" "keptLow" "[J", Cond.fieldLink RX10 45 "FlowCodesModel" "keptHigh" "[J", Cond.fieldLink RX10 48 "FlowCodesModel" "wants" "[I", Cond.fieldLink RX10 51 "FlowCodesModel" "wideAsked" "[I", Cond.fieldLink RX10 54 "FlowCodesModel" "wideOnes" "[I", Cond.fieldLink RX10 57 "FlowCodesModel" "sumAt" "[I", Cond.methodLink RL 13 yX9_letter, Cond.instanceMethod yX9_letter, Cond.selects RX9 yX9_letter yX9_letter, Cond.code yX9_letter cX9_letter 2 (some .int), Cond.methodLink RX9 79 yX5_append, Cond.instanceMethod yX5_append, Cond.selects RX5 yX5_append yX5_append, Cond.code yX5_append cX5_append 2 (some .boolean), Cond.fieldLink RX5 15 "FlowCodes$Page" "size" "I", Cond.methodLink RL 17 yX10_letter, Cond.instanceMethod yX10_letter, Cond.selects RX10 yX10_letter yX10_letter, Cond.code yX10_letter cX10_letter 2 (some .int), Cond.fieldLink RX10 64 "FlowCodesModel" "pageLength" "I", Cond.methodLink RX10 60 yX10_within, Cond.static yX10_within, Cond.code yX10_within cX10_within 3 (some .boolean)]
def wsL_law_r7 : List Cond := [Cond.methodLink RL 18 yX9_blank, Cond.instanceMethod yX9_blank, Cond.selects RX9 yX9_blank yX9_blank, Cond.code yX9_blank cX9_blank 2 (some .int), Cond.methodLink RL 22 yX10_blank, Cond.instanceMethod yX10_blank, Cond.selects RX10 yX10_blank yX10_blank, Cond.code yX10_blank cX10_blank 2 (some .int), Cond.methodLink RL 23 yX9_fault, Cond.instanceMethod yX9_fault, Cond.selects RX9 yX9_fault yX9_fault, Cond.code yX9_fault cX9_fault 1 (some .int), Cond.methodLink RX9 86 yX5_scan, Cond.instanceMethod yX5_scan, Cond.selects RX5 yX5_scan yX5_scan, Cond.code yX5_scan cX5_scan 1 none, Cond.fieldLink RX5 19 "FlowCodes$Page" "rows" "I", Cond.fieldLink RX5 22 "FlowCodes$Page" "inRow" "I", Cond.fieldLink RX5 25 "FlowCodes$Page" "width" "I", Cond.fieldLink RX5 28 "FlowCodes$Page" "fault" "I", Cond.methodLink RX5 31 yX5_fits, Cond.instanceMethod yX5_fits, Cond.selects RX5 yX5_fits yX5_fits, Cond.code yX5_fits cX5_fits 2 (some .boolean)]
def wsL_law_r8 : List Cond := [Cond.methodLink RX5 35 yX5_endsRow, Cond.instanceMethod yX5_endsRow, Cond.selects RX5 yX5_endsRow yX5_endsRow, Cond.code yX5_endsRow cX5_endsRow 2 (some .boolean), Cond.methodLink RX5 39 yX5_stateOf, Cond.static yX5_stateOf, Cond.code yX5_stateOf cX5_stateOf 1 (some .int), Cond.methodLink RL 26 yX10_fault, Cond.instanceMethod yX10_fault, Cond.selects RX10 yX10_fault yX10_fault, Cond.code yX10_fault cX10_fault 1 (some .int), Cond.methodLink RX10 83 yX10_readPage, Cond.instanceMethod yX10_readPage, Cond.selects RX10 yX10_readPage yX10_readPage, Cond.code yX10_readPage cX10_readPage 2 (some .int), Cond.fieldLink RX10 73 "FlowCodesModel" "newRows" "I", Cond.fieldLink RX10 70 "FlowCodesModel" "newEntries" "I", Cond.fieldLink RX10 67 "FlowCodesModel" "newColumns" "I", Cond.fieldLink RX10 76 "FlowCodesModel" "greatest" "I", Cond.methodLink RX10 79 yX10_takes, Cond.instanceMethod yX10_takes, Cond.selects RX10 yX10_takes yX10_takes, Cond.code yX10_takes cX10_takes 5 (some .boolean), Cond.methodLink RL 27 yX9_table]
def wsL_law_r9 : List Cond := [Cond.instanceMethod yX9_table, Cond.selects RX9 yX9_table yX9_table, Cond.code yX9_table cX9_table 1 (some .int), Cond.methodLink RX9 92 yX5_isTable, Cond.instanceMethod yX5_isTable, Cond.selects RX5 yX5_isTable yX5_isTable, Cond.code yX5_isTable cX5_isTable 2 (some .boolean), Cond.methodLink RX9 96 yX2_read, Cond.instanceMethod yX2_read, Cond.selects RX2 yX2_read yX2_read, Cond.code yX2_read cX2_read 4 none, Cond.fieldLink RX2 24 "FlowCodes$Flow" "states" "I", Cond.fieldLink RX2 30 "FlowCodes$Flow" "columns" "I", Cond.methodLink RX2 33 yX5_stateAt, Cond.instanceMethod yX5_stateAt, Cond.selects RX5 yX5_stateAt yX5_stateAt, Cond.code yX5_stateAt cX5_stateAt 3 (some .int), Cond.methodLink RX5 43 yX5_at, Cond.instanceMethod yX5_at, Cond.selects RX5 yX5_at yX5_at, Cond.code yX5_at cX5_at 2 (some .int), Cond.methodLink RX2 37 yX2_inspect, Cond.instanceMethod yX2_inspect, Cond.selects RX2 yX2_inspect yX2_inspect]
def wsL_law_r10 : List Cond := [Cond.code yX2_inspect cX2_inspect 3 none, Cond.fieldLink RX2 40 "FlowCodes$Flow" "moves" "I", Cond.fieldLink RX2 43 "FlowCodes$Flow" "stables" "I", Cond.fieldLink RX2 50 "FlowCodes$Flow" "normal" "Z", Cond.methodLink RX2 46 yX2_inspectEntry, Cond.instanceMethod yX2_inspectEntry, Cond.selects RX2 yX2_inspectEntry yX2_inspectEntry, Cond.code yX2_inspectEntry cX2_inspectEntry 4 none, Cond.methodLink RX2 54 yX2_next, Cond.instanceMethod yX2_next, Cond.selects RX2 yX2_next yX2_next, Cond.code yX2_next cX2_next 3 (some .int), Cond.methodLink RX2 57 yX2_hasState, Cond.instanceMethod yX2_hasState, Cond.selects RX2 yX2_hasState yX2_hasState, Cond.code yX2_hasState cX2_hasState 2 (some .boolean), Cond.methodLink RX2 61 yX2_hasColumn, Cond.instanceMethod yX2_hasColumn, Cond.selects RX2 yX2_hasColumn yX2_hasColumn, Cond.code yX2_hasColumn cX2_hasColumn 2 (some .boolean), Cond.methodLink RX9 100 yX8_start, Cond.instanceMethod yX8_start, Cond.selects RX8 yX8_start yX8_start, Cond.code yX8_start cX8_start 2 none]
def wsL_law_r11 : List Cond := [Cond.fieldLink RX8 15 "FlowCodes$Walker" "turns" "I", Cond.fieldLink RX8 18 "FlowCodes$Walker" "changes" "I", Cond.methodLink RX9 104 yX6_empty, Cond.instanceMethod yX6_empty, Cond.selects RX6 yX6_empty yX6_empty, Cond.code yX6_empty cX6_empty 1 none, Cond.fieldLink RX6 18 "FlowCodes$Partings" "size" "I", Cond.methodLink RX9 107 yX3_forget, Cond.instanceMethod yX3_forget, Cond.selects RX3 yX3_forget yX3_forget, Cond.code yX3_forget cX3_forget 1 none, Cond.fieldLink RX3 22 "FlowCodes$LeastCode" "size" "I", Cond.methodLink RX9 114 yX6_gather, Cond.instanceMethod yX6_gather, Cond.selects RX6 yX6_gather yX6_gather, Cond.code yX6_gather cX6_gather 5 none, Cond.methodLink RX6 22 yX6_empty, Cond.methodLink RX6 30 yX6_offer, Cond.instanceMethod yX6_offer, Cond.selects RX6 yX6_offer yX6_offer, Cond.code yX6_offer cX6_offer 6 none, Cond.methodLink RX6 45 Lib.Math.min.name, Cond.static Lib.Math.min.name, Cond.initialized "java/lang/Math"]
def wsL_law_r12 : List Cond := [Cond.code Lib.Math.min.name Lib.Math.min.code 2 (some .int), Cond.methodLink RX6 50 Lib.Math.max.name, Cond.static Lib.Math.max.name, Cond.code Lib.Math.max.name Lib.Math.max.code 2 (some .int), Cond.methodLink RX6 53 yX6_isInside, Cond.static yX6_isInside, Cond.code yX6_isInside cX6_isInside 4 (some .boolean), Cond.methodLink RX6 57 yX6_dropInside, Cond.instanceMethod yX6_dropInside, Cond.selects RX6 yX6_dropInside yX6_dropInside, Cond.code yX6_dropInside cX6_dropInside 5 none, Cond.methodLink RX6 60 yX6_insert, Cond.instanceMethod yX6_insert, Cond.selects RX6 yX6_insert yX6_insert, Cond.code yX6_insert cX6_insert 4 none, Cond.methodLink RX6 63 yX6_isBehind, Cond.instanceMethod yX6_isBehind, Cond.selects RX6 yX6_isBehind yX6_isBehind, Cond.code yX6_isBehind cX6_isBehind 4 (some .boolean), Cond.methodLink RX6 37 yX6_offerMoves, Cond.instanceMethod yX6_offerMoves, Cond.selects RX6 yX6_offerMoves yX6_offerMoves, Cond.code yX6_offerMoves cX6_offerMoves 7 none, Cond.methodLink RX6 41 yX2_next]
def wsL_law_r13 : List Cond := [Cond.methodLink RX9 121 yX3_find, Cond.instanceMethod yX3_find, Cond.selects RX3 yX3_find yX3_find, Cond.code yX3_find cX3_find 6 none, Cond.methodLink RX3 26 yX3_prepare, Cond.instanceMethod yX3_prepare, Cond.selects RX3 yX3_prepare yX3_prepare, Cond.code yX3_prepare cX3_prepare 7 none, Cond.fieldLink RX3 34 "FlowCodes$LeastCode" "candidates" "I", Cond.methodLink RX3 40 yX6_isKeptBy, Cond.instanceMethod yX6_isKeptBy, Cond.selects RX6 yX6_isKeptBy yX6_isKeptBy, Cond.code yX6_isKeptBy cX6_isKeptBy 5 (some .boolean), Cond.methodLink RX6 67 yX6_lesser, Cond.instanceMethod yX6_lesser, Cond.selects RX6 yX6_lesser yX6_lesser, Cond.code yX6_lesser cX6_lesser 2 (some .int), Cond.methodLink RX6 71 yX6_greater, Cond.instanceMethod yX6_greater, Cond.selects RX6 yX6_greater yX6_greater, Cond.code yX6_greater cX6_greater 2 (some .int), Cond.methodLink RX3 30 yX3_fill, Cond.instanceMethod yX3_fill, Cond.selects RX3 yX3_fill yX3_fill]
def wsL_law_r14 : List Cond := [Cond.code yX3_fill cX3_fill 11 (some .boolean), Cond.constantLong RX3 44 (-1), Cond.methodLink RX9 125 yX7_take, Cond.instanceMethod yX7_take, Cond.selects RX7 yX7_take yX7_take, Cond.code yX7_take cX7_take 3 none, Cond.methodLink RX7 22 yX7_empty, Cond.instanceMethod yX7_empty, Cond.selects RX7 yX7_empty yX7_empty, Cond.code yX7_empty cX7_empty 2 none, Cond.fieldLink RX7 18 "FlowCodes$SignalCode" "size" "I", Cond.methodLink RX7 29 yX7_add, Cond.instanceMethod yX7_add, Cond.selects RX7 yX7_add yX7_add, Cond.code yX7_add cX7_add 3 (some .boolean), Cond.methodLink RX9 129 yX9_settle, Cond.instanceMethod yX9_settle, Cond.selects RX9 yX9_settle yX9_settle, Cond.code yX9_settle cX9_settle 2 none, Cond.methodLink RX9 290 yX7_countUnkept, Cond.instanceMethod yX7_countUnkept, Cond.selects RX7 yX7_countUnkept yX7_countUnkept, Cond.code yX7_countUnkept cX7_countUnkept 4 (some .int), Cond.methodLink RX7 49 yX7_keepersOf]
def wsL_law_r15 : List Cond := [Cond.instanceMethod yX7_keepersOf, Cond.selects RX7 yX7_keepersOf yX7_keepersOf, Cond.code yX7_keepersOf cX7_keepersOf 5 (some .int), Cond.methodLink RX7 42 yX6_isKeptBy, Cond.methodLink RX9 261 yX9_isGood, Cond.instanceMethod yX9_isGood, Cond.selects RX9 yX9_isGood yX9_isGood, Cond.code yX9_isGood cX9_isGood 1 (some .boolean), Cond.methodLink RX9 297 yX0_chart, Cond.instanceMethod yX0_chart, Cond.selects RX0 yX0_chart yX0_chart, Cond.code yX0_chart cX0_chart 6 none, Cond.fieldLink RX0 15 "FlowCodes$Aims" "bits" "I", Cond.methodLink RX0 32 yX2_next, Cond.methodLink RX0 36 yX7_codeOf, Cond.instanceMethod yX7_codeOf, Cond.selects RX7 yX7_codeOf yX7_codeOf, Cond.code yX7_codeOf cX7_codeOf 2 (some .int), Cond.methodLink RX0 40 yX0_chartWay, Cond.instanceMethod yX0_chartWay, Cond.selects RX0 yX0_chartWay yX0_chartWay, Cond.code yX0_chartWay cX0_chartWay 6 none, Cond.methodLink RL 30 yX10_table, Cond.instanceMethod yX10_table]
def wsL_law_r16 : List Cond := [Cond.selects RX10 yX10_table yX10_table, Cond.code yX10_table cX10_table 3 (some .int), Cond.fieldLink RX10 87 "FlowCodesModel" "states" "I", Cond.fieldLink RX10 90 "FlowCodesModel" "columns" "I", Cond.fieldLink RX10 93 "FlowCodesModel" "turned" "I", Cond.fieldLink RX10 96 "FlowCodesModel" "changed" "I", Cond.fieldLink RX10 99 "FlowCodesModel" "signals" "I", Cond.fieldLink RX10 102 "FlowCodesModel" "read" "I", Cond.methodLink RX10 105 yX10_layPartings, Cond.instanceMethod yX10_layPartings, Cond.selects RX10 yX10_layPartings yX10_layPartings, Cond.code yX10_layPartings cX10_layPartings 4 none, Cond.fieldLink RX10 133 "FlowCodesModel" "partings" "I", Cond.methodLink RX10 125 yX10_isNormal, Cond.instanceMethod yX10_isNormal, Cond.selects RX10 yX10_isNormal yX10_isNormal, Cond.code yX10_isNormal cX10_isNormal 1 (some .boolean), Cond.methodLink RX10 122 yX10_amiss, Cond.instanceMethod yX10_amiss, Cond.selects RX10 yX10_amiss yX10_amiss, Cond.code yX10_amiss cX10_amiss 4 (some .int), Cond.methodLink RX10 118 yX10_entryAt, Cond.instanceMethod yX10_entryAt, Cond.selects RX10 yX10_entryAt yX10_entryAt]
def wsL_law_r17 : List Cond := [Cond.code yX10_entryAt cX10_entryAt 3 (some .int), Cond.methodLink RX10 144 yX10_addParting, Cond.instanceMethod yX10_addParting, Cond.selects RX10 yX10_addParting yX10_addParting, Cond.code yX10_addParting cX10_addParting 7 none, Cond.methodLink RX10 140 yX10_isIn, Cond.static yX10_isIn, Cond.code yX10_isIn cX10_isIn 4 (some .boolean), Cond.methodLink RX10 148 yX10_addOfColumn, Cond.instanceMethod yX10_addOfColumn, Cond.selects RX10 yX10_addOfColumn yX10_addOfColumn, Cond.code yX10_addOfColumn cX10_addOfColumn 6 none, Cond.methodLink RX10 108 yX10_layLeast, Cond.instanceMethod yX10_layLeast, Cond.selects RX10 yX10_layLeast yX10_layLeast, Cond.code yX10_layLeast cX10_layLeast 3 none, Cond.methodLink RX10 169 yX10_layKept, Cond.instanceMethod yX10_layKept, Cond.selects RX10 yX10_layKept yX10_layKept, Cond.code yX10_layKept cX10_layKept 5 none, Cond.methodLink RX10 152 yX10_keeps, Cond.static yX10_keeps, Cond.code yX10_keeps cX10_keeps 3 (some .boolean), Cond.methodLink RX10 172 yX10_findLeast]
def wsL_law_r18 : List Cond := [Cond.instanceMethod yX10_findLeast, Cond.selects RX10 yX10_findLeast yX10_findLeast, Cond.code yX10_findLeast cX10_findLeast 3 (some .boolean), Cond.methodLink RX10 163 yX10_isTriedGood, Cond.instanceMethod yX10_isTriedGood, Cond.selects RX10 yX10_isTriedGood yX10_isTriedGood, Cond.code yX10_isTriedGood cX10_isTriedGood 10 (some .boolean), Cond.constantLong RX10 161 (1099511627775), Cond.methodLink RX10 166 yX10_goesOn, Cond.instanceMethod yX10_goesOn, Cond.selects RX10 yX10_goesOn yX10_goesOn, Cond.code yX10_goesOn cX10_goesOn 4 (some .boolean), Cond.methodLink RX10 111 yX10_altered, Cond.instanceMethod yX10_altered, Cond.selects RX10 yX10_altered yX10_altered, Cond.code yX10_altered cX10_altered 1 none, Cond.fieldLink RX10 205 "FlowCodesModel" "laid" "I", Cond.methodLink RL 31 yX9_entry, Cond.instanceMethod yX9_entry, Cond.selects RX9 yX9_entry yX9_entry, Cond.code yX9_entry cX9_entry 3 (some .int), Cond.methodLink RX9 132 yX2_hasState, Cond.methodLink RX9 135 yX2_hasColumn, Cond.methodLink RX9 138 yX2_next]
def wsL_law_r19 : List Cond := [Cond.methodLink RL 35 yX10_entry, Cond.instanceMethod yX10_entry, Cond.selects RX10 yX10_entry yX10_entry, Cond.code yX10_entry cX10_entry 3 (some .int), Cond.methodLink RX10 114 yX10_isEntry, Cond.instanceMethod yX10_isEntry, Cond.selects RX10 yX10_isEntry yX10_isEntry, Cond.code yX10_isEntry cX10_isEntry 3 (some .boolean), Cond.methodLink RL 36 yX9_about, Cond.instanceMethod yX9_about, Cond.selects RX9 yX9_about yX9_about, Cond.code yX9_about cX9_about 2 (some .int), Cond.methodLink RL 39 yX10_about, Cond.instanceMethod yX10_about, Cond.selects RX10 yX10_about yX10_about, Cond.code yX10_about cX10_about 2 (some .int), Cond.methodLink RX10 136 yX10_aboutNow, Cond.instanceMethod yX10_aboutNow, Cond.selects RX10 yX10_aboutNow yX10_aboutNow, Cond.code yX10_aboutNow cX10_aboutNow 2 (some .int), Cond.methodLink RX10 129 yX10_movesMany, Cond.instanceMethod yX10_movesMany, Cond.selects RX10 yX10_movesMany yX10_movesMany, Cond.code yX10_movesMany cX10_movesMany 6 (some .int)]
def wsL_law_r20 : List Cond := [Cond.methodLink RL 40 yX9_parting, Cond.instanceMethod yX9_parting, Cond.selects RX9 yX9_parting yX9_parting, Cond.code yX9_parting cX9_parting 3 (some .int), Cond.methodLink RX9 152 yX6_lesser, Cond.methodLink RX9 156 yX6_greater, Cond.methodLink RX9 159 yX7_keepersOf, Cond.methodLink RL 43 yX10_parting, Cond.instanceMethod yX10_parting, Cond.selects RX10 yX10_parting yX10_parting, Cond.code yX10_parting cX10_parting 3 (some .int), Cond.methodLink RX10 158 yX10_partingNow, Cond.instanceMethod yX10_partingNow, Cond.selects RX10 yX10_partingNow yX10_partingNow, Cond.code yX10_partingNow cX10_partingNow 3 (some .int), Cond.methodLink RX10 155 yX10_keptBy, Cond.instanceMethod yX10_keptBy, Cond.selects RX10 yX10_keptBy yX10_keptBy, Cond.code yX10_keptBy cX10_keptBy 4 (some .int), Cond.methodLink RL 44 yX9_least, Cond.instanceMethod yX9_least, Cond.selects RX9 yX9_least yX9_least, Cond.code yX9_least cX9_least 2 (some .int), Cond.methodLink RL 47 yX10_least]
def wsL_law_r21 : List Cond := [Cond.instanceMethod yX10_least, Cond.selects RX10 yX10_least yX10_least, Cond.code yX10_least cX10_least 2 (some .int), Cond.methodLink RX10 175 yX10_leastNow, Cond.instanceMethod yX10_leastNow, Cond.selects RX10 yX10_leastNow yX10_leastNow, Cond.code yX10_leastNow cX10_leastNow 2 (some .int), Cond.methodLink RL 48 yX9_put, Cond.instanceMethod yX9_put, Cond.selects RX9 yX9_put yX9_put, Cond.code yX9_put cX9_put 2 (some .int), Cond.methodLink RX9 168 yX2_allStates, Cond.instanceMethod yX2_allStates, Cond.selects RX2 yX2_allStates yX2_allStates, Cond.code yX2_allStates cX2_allStates 1 (some .int), Cond.methodLink RX9 172 yX7_add, Cond.methodLink RL 51 yX10_put, Cond.instanceMethod yX10_put, Cond.selects RX10 yX10_put yX10_put, Cond.code yX10_put cX10_put 2 (some .int), Cond.methodLink RL 52 yX9_clear, Cond.instanceMethod yX9_clear, Cond.selects RX9 yX9_clear yX9_clear, Cond.code yX9_clear cX9_clear 2 (some .int)]
def wsL_law_r22 : List Cond := [Cond.methodLink RX9 176 yX7_empty, Cond.methodLink RL 55 yX10_clear, Cond.instanceMethod yX10_clear, Cond.selects RX10 yX10_clear yX10_clear, Cond.code yX10_clear cX10_clear 2 (some .int), Cond.methodLink RL 56 yX9_code, Cond.instanceMethod yX9_code, Cond.selects RX9 yX9_code yX9_code, Cond.code yX9_code cX9_code 2 (some .int), Cond.methodLink RX9 177 yX7_codeOf, Cond.methodLink RL 59 yX10_code, Cond.instanceMethod yX10_code, Cond.selects RX10 yX10_code yX10_code, Cond.code yX10_code cX10_code 2 (some .int), Cond.methodLink RX10 178 yX10_codeOf, Cond.instanceMethod yX10_codeOf, Cond.selects RX10 yX10_codeOf yX10_codeOf, Cond.code yX10_codeOf cX10_codeOf 4 (some .int), Cond.methodLink RL 60 yX9_coded, Cond.instanceMethod yX9_coded, Cond.selects RX9 yX9_coded yX9_coded, Cond.code yX9_coded cX9_coded 2 (some .int), Cond.methodLink RX9 180 yX7_countWild, Cond.instanceMethod yX7_countWild]
def wsL_law_r23 : List Cond := [Cond.selects RX7 yX7_countWild yX7_countWild, Cond.code yX7_countWild cX7_countWild 5 (some .int), Cond.methodLink RX7 61 yX7_isWild, Cond.instanceMethod yX7_isWild, Cond.selects RX7 yX7_isWild yX7_isWild, Cond.code yX7_isWild cX7_isWild 7 (some .boolean), Cond.methodLink RX7 65 yX2_next, Cond.methodLink RX7 69 yX7_waysMeet, Cond.instanceMethod yX7_waysMeet, Cond.selects RX7 yX7_waysMeet yX7_waysMeet, Cond.code yX7_waysMeet cX7_waysMeet 6 (some .boolean), Cond.methodLink RX7 33 yX7_codeOf, Cond.methodLink RX9 184 yX7_firstWild, Cond.instanceMethod yX7_firstWild, Cond.selects RX7 yX7_firstWild yX7_firstWild, Cond.code yX7_firstWild cX7_firstWild 4 (some .int), Cond.methodLink RX9 187 yX7_mostChanges, Cond.instanceMethod yX7_mostChanges, Cond.selects RX7 yX7_mostChanges yX7_mostChanges, Cond.code yX7_mostChanges cX7_mostChanges 6 (some .int), Cond.methodLink RX7 76 Lib.Math.max.name, Cond.methodLink RX7 73 yX7_changesBetween, Cond.instanceMethod yX7_changesBetween, Cond.selects RX7 yX7_changesBetween yX7_changesBetween]
def wsL_law_r24 : List Cond := [Cond.code yX7_changesBetween cX7_changesBetween 3 (some .int), Cond.methodLink RX7 37 yJ6_bitCount_0f7a4, Cond.static yJ6_bitCount_0f7a4, Cond.initialized RJ6, Cond.code yJ6_bitCount_0f7a4 cJ6_bitCount_0f7a4 1 (some .int), Cond.constant RJ6 265 (1431655765), Cond.constant RJ6 266 (858993459), Cond.constant RJ6 267 (252645135), Cond.methodLink RL 63 yX10_coded, Cond.instanceMethod yX10_coded, Cond.selects RX10 yX10_coded yX10_coded, Cond.code yX10_coded cX10_coded 2 (some .int), Cond.methodLink RX10 202 yX10_codedNow, Cond.instanceMethod yX10_codedNow, Cond.selects RX10 yX10_codedNow yX10_codedNow, Cond.code yX10_codedNow cX10_codedNow 2 (some .int), Cond.methodLink RX10 193 yX10_lost, Cond.instanceMethod yX10_lost, Cond.selects RX10 yX10_lost yX10_lost, Cond.code yX10_lost cX10_lost 3 (some .int), Cond.methodLink RX10 196 yX10_wildNow, Cond.instanceMethod yX10_wildNow, Cond.selects RX10 yX10_wildNow yX10_wildNow, Cond.code yX10_wildNow cX10_wildNow 6 (some .int)]
def wsL_law_r25 : List Cond := [Cond.methodLink RX10 187 yX10_isWild, Cond.instanceMethod yX10_isWild, Cond.selects RX10 yX10_isWild yX10_isWild, Cond.code yX10_isWild cX10_isWild 6 (some .boolean), Cond.methodLink RX10 184 yX10_areMeeting, Cond.instanceMethod yX10_areMeeting, Cond.selects RX10 yX10_areMeeting yX10_areMeeting, Cond.code yX10_areMeeting cX10_areMeeting 6 (some .boolean), Cond.methodLink RX10 181 yX10_isOnWay, Cond.instanceMethod yX10_isOnWay, Cond.selects RX10 yX10_isOnWay yX10_isOnWay, Cond.code yX10_isOnWay cX10_isOnWay 5 (some .boolean), Cond.methodLink RX10 199 yX10_mostChange, Cond.instanceMethod yX10_mostChange, Cond.selects RX10 yX10_mostChange yX10_mostChange, Cond.code yX10_mostChange cX10_mostChange 6 (some .int), Cond.methodLink RX10 190 yX10_ones, Cond.static yX10_ones, Cond.code yX10_ones cX10_ones 3 (some .int), Cond.methodLink RL 64 yX9_wanted, Cond.instanceMethod yX9_wanted, Cond.selects RX9 yX9_wanted yX9_wanted, Cond.code yX9_wanted cX9_wanted 4 (some .int), Cond.methodLink RX9 190 yX9_refusalOf]
def wsL_law_r26 : List Cond := [Cond.instanceMethod yX9_refusalOf, Cond.selects RX9 yX9_refusalOf yX9_refusalOf, Cond.code yX9_refusalOf cX9_refusalOf 2 (some .int), Cond.methodLink RX9 193 yX0_points, Cond.instanceMethod yX0_points, Cond.selects RX0 yX0_points yX0_points, Cond.code yX0_points cX0_points 1 (some .int), Cond.methodLink RX9 196 yX0_at, Cond.instanceMethod yX0_at, Cond.selects RX0 yX0_at yX0_at, Cond.code yX0_at cX0_at 3 (some .int), Cond.methodLink RL 67 yX10_wanted, Cond.instanceMethod yX10_wanted, Cond.selects RX10 yX10_wanted yX10_wanted, Cond.code yX10_wanted cX10_wanted 4 (some .int), Cond.methodLink RX10 208 yX10_isGood, Cond.instanceMethod yX10_isGood, Cond.selects RX10 yX10_isGood yX10_isGood, Cond.code yX10_isGood cX10_isGood 1 (some .boolean), Cond.methodLink RX10 211 yX10_points, Cond.instanceMethod yX10_points, Cond.selects RX10 yX10_points yX10_points, Cond.code yX10_points cX10_points 1 (some .int), Cond.methodLink RX10 214 yX10_wantedAt]
def wsL_law_r27 : List Cond := [Cond.instanceMethod yX10_wantedAt, Cond.selects RX10 yX10_wantedAt yX10_wantedAt, Cond.code yX10_wantedAt cX10_wantedAt 6 (some .int), Cond.methodLink RL 68 yX9_logic, Cond.instanceMethod yX9_logic, Cond.selects RX9 yX9_logic yX9_logic, Cond.code yX9_logic cX9_logic 5 (some .int), Cond.methodLink RX9 199 yX9_workedOut, Cond.instanceMethod yX9_workedOut, Cond.selects RX9 yX9_workedOut yX9_workedOut, Cond.code yX9_workedOut cX9_workedOut 3 (some (.object "FlowCodes$Logic")), Cond.methodLink RX9 301 yX1_look, Cond.instanceMethod yX1_look, Cond.selects RX1 yX1_look yX1_look, Cond.code yX1_look cX1_look 9 none, Cond.fieldLink RX1 19 "FlowCodes$Cubes" "all" "I", Cond.methodLink RX1 23 yX0_points, Cond.methodLink RX1 29 yJ6_bitCount_0f7a4, Cond.methodLink RX1 35 yX0_at, Cond.methodLink RX1 39 yX1_seenAtPoint, Cond.static yX1_seenAtPoint, Cond.code yX1_seenAtPoint cX1_seenAtPoint 1 (some .int), Cond.methodLink RX1 42 yX1_indexOf, Cond.instanceMethod yX1_indexOf]
def wsL_law_r28 : List Cond := [Cond.selects RX1 yX1_indexOf yX1_indexOf, Cond.code yX1_indexOf cX1_indexOf 3 (some .int), Cond.methodLink RX9 305 yX4_collectWide, Cond.instanceMethod yX4_collectWide, Cond.selects RX4 yX4_collectWide yX4_collectWide, Cond.code yX4_collectWide cX4_collectWide 5 none, Cond.fieldLink RX4 21 "FlowCodes$Logic" "wideSize" "I", Cond.methodLink RX4 30 yJ6_bitCount_0f7a4, Cond.methodLink RX4 36 yX1_isWide, Cond.instanceMethod yX1_isWide, Cond.selects RX1 yX1_isWide yX1_isWide, Cond.code yX1_isWide cX1_isWide 5 (some .boolean), Cond.methodLink RX9 309 yX4_collectSum, Cond.instanceMethod yX4_collectSum, Cond.selects RX4 yX4_collectSum yX4_collectSum, Cond.code yX4_collectSum cX4_collectSum 8 none, Cond.fieldLink RX4 40 "FlowCodes$Logic" "sumSize" "I", Cond.fieldLink RX4 60 "FlowCodes$Logic" "flickers" "I", Cond.methodLink RX4 43 yX0_points, Cond.methodLink RX4 49 yX0_at, Cond.methodLink RX4 53 yX4_cover, Cond.instanceMethod yX4_cover, Cond.selects RX4 yX4_cover yX4_cover, Cond.code yX4_cover cX4_cover 6 none]
def wsL_law_r29 : List Cond := [Cond.methodLink RX4 63 yX4_hasBoth, Cond.instanceMethod yX4_hasBoth, Cond.selects RX4 yX4_hasBoth yX4_hasBoth, Cond.code yX4_hasBoth cX4_hasBoth 4 (some .boolean), Cond.methodLink RX9 212 yX4_askedInSum, Cond.instanceMethod yX4_askedInSum, Cond.selects RX4 yX4_askedInSum yX4_askedInSum, Cond.code yX4_askedInSum cX4_askedInSum 3 (some .int), Cond.methodLink RX9 215 yX0_pointsWith, Cond.instanceMethod yX0_pointsWith, Cond.selects RX0 yX0_pointsWith yX0_pointsWith, Cond.code yX0_pointsWith cX0_pointsWith 5 (some .int), Cond.methodLink RX0 44 yX0_points, Cond.methodLink RX0 48 yX0_at, Cond.methodLink RL 71 yX10_logic, Cond.instanceMethod yX10_logic, Cond.selects RX10 yX10_logic yX10_logic, Cond.code yX10_logic cX10_logic 3 (some .int), Cond.methodLink RX10 260 yX10_logicNow, Cond.instanceMethod yX10_logicNow, Cond.selects RX10 yX10_logicNow yX10_logicNow, Cond.code yX10_logicNow cX10_logicNow 3 (some .int), Cond.fieldLink RX10 226 "FlowCodesModel" "wide" "I", Cond.fieldLink RX10 232 "FlowCodesModel" "sum" "I"]
def wsL_law_r30 : List Cond := [Cond.fieldLink RX10 241 "FlowCodesModel" "flickers" "I", Cond.methodLink RX10 251 yX10_laySignal, Cond.instanceMethod yX10_laySignal, Cond.selects RX10 yX10_laySignal yX10_laySignal, Cond.code yX10_laySignal cX10_laySignal 3 none, Cond.methodLink RX10 244 yX10_layWide, Cond.instanceMethod yX10_layWide, Cond.selects RX10 yX10_layWide yX10_layWide, Cond.code yX10_layWide cX10_layWide 3 none, Cond.methodLink RX10 229 yX10_isWide, Cond.instanceMethod yX10_isWide, Cond.selects RX10 yX10_isWide yX10_isWide, Cond.code yX10_isWide cX10_isWide 5 (some .boolean), Cond.methodLink RX10 220 yX10_hasOne, Cond.instanceMethod yX10_hasOne, Cond.selects RX10 yX10_hasOne yX10_hasOne, Cond.code yX10_hasOne cX10_hasOne 5 (some .boolean), Cond.methodLink RX10 217 yX10_has, Cond.static yX10_has, Cond.code yX10_has cX10_has 3 (some .boolean), Cond.methodLink RX10 223 yX10_isClean, Cond.instanceMethod yX10_isClean, Cond.selects RX10 yX10_isClean yX10_isClean, Cond.code yX10_isClean cX10_isClean 5 (some .boolean)]
def wsL_law_r31 : List Cond := [Cond.methodLink RX10 235 yX10_isSummed, Cond.instanceMethod yX10_isSummed, Cond.selects RX10 yX10_isSummed yX10_isSummed, Cond.code yX10_isSummed cX10_isSummed 6 (some .boolean), Cond.methodLink RX10 238 yX10_addSum, Cond.instanceMethod yX10_addSum, Cond.selects RX10 yX10_addSum yX10_addSum, Cond.code yX10_addSum cX10_addSum 6 none, Cond.methodLink RX10 247 yX10_layFlickers, Cond.instanceMethod yX10_layFlickers, Cond.selects RX10 yX10_layFlickers yX10_layFlickers, Cond.code yX10_layFlickers cX10_layFlickers 4 none, Cond.methodLink RX10 254 yX10_asksAll, Cond.instanceMethod yX10_asksAll, Cond.selects RX10 yX10_asksAll yX10_asksAll, Cond.code yX10_asksAll cX10_asksAll 3 (some .int), Cond.methodLink RX10 257 yX10_wantsMany, Cond.instanceMethod yX10_wantsMany, Cond.selects RX10 yX10_wantsMany yX10_wantsMany, Cond.code yX10_wantsMany cX10_wantsMany 4 (some .int), Cond.methodLink RL 72 yX9_product, Cond.instanceMethod yX9_product, Cond.selects RX9 yX9_product yX9_product, Cond.code yX9_product cX9_product 5 (some .int)]
def wsL_law_r32 : List Cond := [Cond.methodLink RX9 218 yX4_ofSum, Cond.instanceMethod yX4_ofSum, Cond.selects RX4 yX4_ofSum yX4_ofSum, Cond.code yX4_ofSum cX4_ofSum 3 (some .int), Cond.methodLink RX4 67 yX4_ofWide, Cond.instanceMethod yX4_ofWide, Cond.selects RX4 yX4_ofWide yX4_ofWide, Cond.code yX4_ofWide cX4_ofWide 3 (some .int), Cond.methodLink RL 76 yX10_product, Cond.instanceMethod yX10_product, Cond.selects RX10 yX10_product yX10_product, Cond.code yX10_product cX10_product 4 (some .int), Cond.methodLink RL 77 yX9_wide, Cond.instanceMethod yX9_wide, Cond.selects RX9 yX9_wide yX9_wide, Cond.code yX9_wide cX9_wide 5 (some .int), Cond.methodLink RX9 221 yX4_ofWide, Cond.methodLink RL 80 yX10_wide, Cond.instanceMethod yX10_wide, Cond.selects RX10 yX10_wide yX10_wide, Cond.code yX10_wide cX10_wide 4 (some .int), Cond.methodLink RL 81 yX9_walk, Cond.instanceMethod yX9_walk, Cond.selects RX9 yX9_walk yX9_walk]
def wsL_law_r33 : List Cond := [Cond.code yX9_walk cX9_walk 3 (some .int), Cond.methodLink RL 84 yX10_walk, Cond.instanceMethod yX10_walk, Cond.selects RX10 yX10_walk yX10_walk, Cond.code yX10_walk cX10_walk 3 (some .int), Cond.methodLink RL 85 yX9_turn, Cond.instanceMethod yX9_turn, Cond.selects RX9 yX9_turn yX9_turn, Cond.code yX9_turn cX9_turn 3 (some .int), Cond.methodLink RX9 226 yX7_changesBetween, Cond.methodLink RX9 229 yX8_go, Cond.instanceMethod yX8_go, Cond.selects RX8 yX8_go yX8_go, Cond.code yX8_go cX8_go 3 none, Cond.methodLink RL 88 yX10_turn, Cond.instanceMethod yX10_turn, Cond.selects RX10 yX10_turn yX10_turn, Cond.code yX10_turn cX10_turn 3 (some .int), Cond.methodLink RL 89 yX9_count, Cond.instanceMethod yX9_count, Cond.selects RX9 yX9_count yX9_count, Cond.code yX9_count cX9_count 2 (some .int), Cond.methodLink RL 92 yX10_count, Cond.instanceMethod yX10_count]
def wsL_law_r34 : List Cond := [Cond.selects RX10 yX10_count yX10_count, Cond.code yX10_count cX10_count 2 (some .int), Cond.methodLink RX10 263 yX10_howMany, Cond.instanceMethod yX10_howMany, Cond.selects RX10 yX10_howMany yX10_howMany, Cond.code yX10_howMany cX10_howMany 2 (some .int), Cond.methodLink RL 93 yX9_digest, Cond.instanceMethod yX9_digest, Cond.selects RX9 yX9_digest yX9_digest, Cond.code yX9_digest cX9_digest 5 (some .long), Cond.constantLong RX9 242 (1667), Cond.methodLink RX9 244 yX9_entry, Cond.methodLink RX9 247 yX9_mixed, Cond.static yX9_mixed, Cond.code yX9_mixed cX9_mixed 3 (some .long), Cond.constantLong RX9 272 (31), Cond.methodLink RX9 251 yX9_about, Cond.methodLink RX9 254 yX9_mixedCode, Cond.instanceMethod yX9_mixedCode, Cond.selects RX9 yX9_mixedCode yX9_mixedCode, Cond.code yX9_mixedCode cX9_mixedCode 7 (some .long), Cond.methodLink RX9 274 yX9_parting, Cond.methodLink RX9 277 yX9_least, Cond.methodLink RX9 280 yX9_code]
def wsL_law_r35 : List Cond := [Cond.methodLink RX9 258 yX9_coded, Cond.methodLink RX9 264 yX9_mixedLogic, Cond.instanceMethod yX9_mixedLogic, Cond.selects RX9 yX9_mixedLogic yX9_mixedLogic, Cond.code yX9_mixedLogic cX9_mixedLogic 8 (some .long), Cond.methodLink RX9 283 yX9_logic, Cond.methodLink RX9 286 yX9_product, Cond.methodLink RX9 267 yX5_at, Cond.methodLink RX9 269 yX9_count, Cond.methodLink RL 97 yX10_digest, Cond.instanceMethod yX10_digest, Cond.selects RX10 yX10_digest yX10_digest, Cond.code yX10_digest cX10_digest 3 (some .long), Cond.constantLong RX10 276 (1667), Cond.fieldLink RX10 268 "FlowCodesModel" "h" "J", Cond.methodLink RX10 272 yX10_mix, Cond.instanceMethod yX10_mix, Cond.selects RX10 yX10_mix yX10_mix, Cond.code yX10_mix cX10_mix 3 none, Cond.constantLong RX10 266 (31), Cond.methodLink RX10 278 yX10_mixNormal, Cond.instanceMethod yX10_mixNormal, Cond.selects RX10 yX10_mixNormal yX10_mixNormal, Cond.code yX10_mixNormal cX10_mixNormal 2 none]
def wsL_law_r36 : List Cond := [Cond.methodLink RX10 281 yX10_mixLogic, Cond.instanceMethod yX10_mixLogic, Cond.selects RX10 yX10_mixLogic yX10_mixLogic, Cond.code yX10_mixLogic cX10_mixLogic 3 none]
def wsL_law : List Cond := (wsL_law_r1 ++ (wsL_law_r2 ++ (wsL_law_r3 ++ (wsL_law_r4 ++ (wsL_law_r5 ++ (wsL_law_r6 ++ (wsL_law_r7 ++ (wsL_law_r8 ++ (wsL_law_r9 ++ (wsL_law_r10 ++ (wsL_law_r11 ++ (wsL_law_r12 ++ (wsL_law_r13 ++ (wsL_law_r14 ++ (wsL_law_r15 ++ (wsL_law_r16 ++ (wsL_law_r17 ++ (wsL_law_r18 ++ (wsL_law_r19 ++ (wsL_law_r20 ++ (wsL_law_r21 ++ (wsL_law_r22 ++ (wsL_law_r23 ++ (wsL_law_r24 ++ (wsL_law_r25 ++ (wsL_law_r26 ++ (wsL_law_r27 ++ (wsL_law_r28 ++ (wsL_law_r29 ++ (wsL_law_r30 ++ (wsL_law_r31 ++ (wsL_law_r32 ++ (wsL_law_r33 ++ (wsL_law_r34 ++ (wsL_law_r35 ++ wsL_law_r36))))))))))))))))))))))))))))))))))) ++ wsX90 ++ wsX100 ++ wsX50 ++ wsX20 ++ wsX60 ++ wsX30 ++ wsX70 ++ wsX00 ++ wsX10 ++ wsX40 ++ wsX80 ++ ([] : List Cond)
theorem inr1 : ∀ w ∈ wsL_law_r1, w ∈ wsL_law := fun _ h => (List.mem_append_left _ (List.mem_append_left _ (List.mem_append_left _ (List.mem_append_left _ (List.mem_append_left _ (List.mem_append_left _ (List.mem_append_left _ (List.mem_append_left _ (List.mem_append_left _ (List.mem_append_left _ (List.mem_append_left _ (List.mem_append_left _ (List.mem_append_left _ h)))))))))))))
theorem inr2 : ∀ w ∈ wsL_law_r2, w ∈ wsL_law := fun _ h => (List.mem_append_left _ (List.mem_append_left _ (List.mem_append_left _ (List.mem_append_left _ (List.mem_append_left _ (List.mem_append_left _ (List.mem_append_left _ (List.mem_append_left _ (List.mem_append_left _ (List.mem_append_left _ (List.mem_append_left _ (List.mem_append_left _ (List.mem_append_right _ (List.mem_append_left _ h))))))))))))))
theorem inr3 : ∀ w ∈ wsL_law_r3, w ∈ wsL_law := fun _ h => (List.mem_append_left _ (List.mem_append_left _ (List.mem_append_left _ (List.mem_append_left _ (List.mem_append_left _ (List.mem_append_left _ (List.mem_append_left _ (List.mem_append_left _ (List.mem_append_left _ (List.mem_append_left _ (List.mem_append_left _ (List.mem_append_left _ (List.mem_append_right _ (List.mem_append_right _ (List.mem_append_left _ h)))))))))))))))
theorem inr4 : ∀ w ∈ wsL_law_r4, w ∈ wsL_law := fun _ h => (List.mem_append_left _ (List.mem_append_left _ (List.mem_append_left _ (List.mem_append_left _ (List.mem_append_left _ (List.mem_append_left _ (List.mem_append_left _ (List.mem_append_left _ (List.mem_append_left _ (List.mem_append_left _ (List.mem_append_left _ (List.mem_append_left _ (List.mem_append_right _ (List.mem_append_right _ (List.mem_append_right _ (List.mem_append_left _ h))))))))))))))))
theorem inr5 : ∀ w ∈ wsL_law_r5, w ∈ wsL_law := fun _ h => (List.mem_append_left _ (List.mem_append_left _ (List.mem_append_left _ (List.mem_append_left _ (List.mem_append_left _ (List.mem_append_left _ (List.mem_append_left _ (List.mem_append_left _ (List.mem_append_left _ (List.mem_append_left _ (List.mem_append_left _ (List.mem_append_left _ (List.mem_append_right _ (List.mem_append_right _ (List.mem_append_right _ (List.mem_append_right _ (List.mem_append_left _ h)))))))))))))))))
theorem inr6 : ∀ w ∈ wsL_law_r6, w ∈ wsL_law := fun _ h => (List.mem_append_left _ (List.mem_append_left _ (List.mem_append_left _ (List.mem_append_left _ (List.mem_append_left _ (List.mem_append_left _ (List.mem_append_left _ (List.mem_append_left _ (List.mem_append_left _ (List.mem_append_left _ (List.mem_append_left _ (List.mem_append_left _ (List.mem_append_right _ (List.mem_append_right _ (List.mem_append_right _ (List.mem_append_right _ (List.mem_append_right _ (List.mem_append_left _ h))))))))))))))))))
theorem inr7 : ∀ w ∈ wsL_law_r7, w ∈ wsL_law := fun _ h => (List.mem_append_left _ (List.mem_append_left _ (List.mem_append_left _ (List.mem_append_left _ (List.mem_append_left _ (List.mem_append_left _ (List.mem_append_left _ (List.mem_append_left _ (List.mem_append_left _ (List.mem_append_left _ (List.mem_append_left _ (List.mem_append_left _ (List.mem_append_right _ (List.mem_append_right _ (List.mem_append_right _ (List.mem_append_right _ (List.mem_append_right _ (List.mem_append_right _ (List.mem_append_left _ h)))))))))))))))))))
theorem inr8 : ∀ w ∈ wsL_law_r8, w ∈ wsL_law := fun _ h => (List.mem_append_left _ (List.mem_append_left _ (List.mem_append_left _ (List.mem_append_left _ (List.mem_append_left _ (List.mem_append_left _ (List.mem_append_left _ (List.mem_append_left _ (List.mem_append_left _ (List.mem_append_left _ (List.mem_append_left _ (List.mem_append_left _ (List.mem_append_right _ (List.mem_append_right _ (List.mem_append_right _ (List.mem_append_right _ (List.mem_append_right _ (List.mem_append_right _ (List.mem_append_right _ (List.mem_append_left _ h))))))))))))))))))))
theorem inr9 : ∀ w ∈ wsL_law_r9, w ∈ wsL_law := fun _ h => (List.mem_append_left _ (List.mem_append_left _ (List.mem_append_left _ (List.mem_append_left _ (List.mem_append_left _ (List.mem_append_left _ (List.mem_append_left _ (List.mem_append_left _ (List.mem_append_left _ (List.mem_append_left _ (List.mem_append_left _ (List.mem_append_left _ (List.mem_append_right _ (List.mem_append_right _ (List.mem_append_right _ (List.mem_append_right _ (List.mem_append_right _ (List.mem_append_right _ (List.mem_append_right _ (List.mem_append_right _ (List.mem_append_left _ h)))))))))))))))))))))
theorem inr10 : ∀ w ∈ wsL_law_r10, w ∈ wsL_law := fun _ h => (List.mem_append_left _ (List.mem_append_left _ (List.mem_append_left _ (List.mem_append_left _ (List.mem_append_left _ (List.mem_append_left _ (List.mem_append_left _ (List.mem_append_left _ (List.mem_append_left _ (List.mem_append_left _ (List.mem_append_left _ (List.mem_append_left _ (List.mem_append_right _ (List.mem_append_right _ (List.mem_append_right _ (List.mem_append_right _ (List.mem_append_right _ (List.mem_append_right _ (List.mem_append_right _ (List.mem_append_right _ (List.mem_append_right _ (List.mem_append_left _ h))))))))))))))))))))))
theorem inr11 : ∀ w ∈ wsL_law_r11, w ∈ wsL_law := fun _ h => (List.mem_append_left _ (List.mem_append_left _ (List.mem_append_left _ (List.mem_append_left _ (List.mem_append_left _ (List.mem_append_left _ (List.mem_append_left _ (List.mem_append_left _ (List.mem_append_left _ (List.mem_append_left _ (List.mem_append_left _ (List.mem_append_left _ (List.mem_append_right _ (List.mem_append_right _ (List.mem_append_right _ (List.mem_append_right _ (List.mem_append_right _ (List.mem_append_right _ (List.mem_append_right _ (List.mem_append_right _ (List.mem_append_right _ (List.mem_append_right _ (List.mem_append_left _ h)))))))))))))))))))))))
theorem inr12 : ∀ w ∈ wsL_law_r12, w ∈ wsL_law := fun _ h => (List.mem_append_left _ (List.mem_append_left _ (List.mem_append_left _ (List.mem_append_left _ (List.mem_append_left _ (List.mem_append_left _ (List.mem_append_left _ (List.mem_append_left _ (List.mem_append_left _ (List.mem_append_left _ (List.mem_append_left _ (List.mem_append_left _ (List.mem_append_right _ (List.mem_append_right _ (List.mem_append_right _ (List.mem_append_right _ (List.mem_append_right _ (List.mem_append_right _ (List.mem_append_right _ (List.mem_append_right _ (List.mem_append_right _ (List.mem_append_right _ (List.mem_append_right _ (List.mem_append_left _ h))))))))))))))))))))))))
theorem inr13 : ∀ w ∈ wsL_law_r13, w ∈ wsL_law := fun _ h => (List.mem_append_left _ (List.mem_append_left _ (List.mem_append_left _ (List.mem_append_left _ (List.mem_append_left _ (List.mem_append_left _ (List.mem_append_left _ (List.mem_append_left _ (List.mem_append_left _ (List.mem_append_left _ (List.mem_append_left _ (List.mem_append_left _ (List.mem_append_right _ (List.mem_append_right _ (List.mem_append_right _ (List.mem_append_right _ (List.mem_append_right _ (List.mem_append_right _ (List.mem_append_right _ (List.mem_append_right _ (List.mem_append_right _ (List.mem_append_right _ (List.mem_append_right _ (List.mem_append_right _ (List.mem_append_left _ h)))))))))))))))))))))))))
theorem inr14 : ∀ w ∈ wsL_law_r14, w ∈ wsL_law := fun _ h => (List.mem_append_left _ (List.mem_append_left _ (List.mem_append_left _ (List.mem_append_left _ (List.mem_append_left _ (List.mem_append_left _ (List.mem_append_left _ (List.mem_append_left _ (List.mem_append_left _ (List.mem_append_left _ (List.mem_append_left _ (List.mem_append_left _ (List.mem_append_right _ (List.mem_append_right _ (List.mem_append_right _ (List.mem_append_right _ (List.mem_append_right _ (List.mem_append_right _ (List.mem_append_right _ (List.mem_append_right _ (List.mem_append_right _ (List.mem_append_right _ (List.mem_append_right _ (List.mem_append_right _ (List.mem_append_right _ (List.mem_append_left _ h))))))))))))))))))))))))))
theorem inr15 : ∀ w ∈ wsL_law_r15, w ∈ wsL_law := fun _ h => (List.mem_append_left _ (List.mem_append_left _ (List.mem_append_left _ (List.mem_append_left _ (List.mem_append_left _ (List.mem_append_left _ (List.mem_append_left _ (List.mem_append_left _ (List.mem_append_left _ (List.mem_append_left _ (List.mem_append_left _ (List.mem_append_left _ (List.mem_append_right _ (List.mem_append_right _ (List.mem_append_right _ (List.mem_append_right _ (List.mem_append_right _ (List.mem_append_right _ (List.mem_append_right _ (List.mem_append_right _ (List.mem_append_right _ (List.mem_append_right _ (List.mem_append_right _ (List.mem_append_right _ (List.mem_append_right _ (List.mem_append_right _ (List.mem_append_left _ h)))))))))))))))))))))))))))
theorem inr16 : ∀ w ∈ wsL_law_r16, w ∈ wsL_law := fun _ h => (List.mem_append_left _ (List.mem_append_left _ (List.mem_append_left _ (List.mem_append_left _ (List.mem_append_left _ (List.mem_append_left _ (List.mem_append_left _ (List.mem_append_left _ (List.mem_append_left _ (List.mem_append_left _ (List.mem_append_left _ (List.mem_append_left _ (List.mem_append_right _ (List.mem_append_right _ (List.mem_append_right _ (List.mem_append_right _ (List.mem_append_right _ (List.mem_append_right _ (List.mem_append_right _ (List.mem_append_right _ (List.mem_append_right _ (List.mem_append_right _ (List.mem_append_right _ (List.mem_append_right _ (List.mem_append_right _ (List.mem_append_right _ (List.mem_append_right _ (List.mem_append_left _ h))))))))))))))))))))))))))))
theorem inr17 : ∀ w ∈ wsL_law_r17, w ∈ wsL_law := fun _ h => (List.mem_append_left _ (List.mem_append_left _ (List.mem_append_left _ (List.mem_append_left _ (List.mem_append_left _ (List.mem_append_left _ (List.mem_append_left _ (List.mem_append_left _ (List.mem_append_left _ (List.mem_append_left _ (List.mem_append_left _ (List.mem_append_left _ (List.mem_append_right _ (List.mem_append_right _ (List.mem_append_right _ (List.mem_append_right _ (List.mem_append_right _ (List.mem_append_right _ (List.mem_append_right _ (List.mem_append_right _ (List.mem_append_right _ (List.mem_append_right _ (List.mem_append_right _ (List.mem_append_right _ (List.mem_append_right _ (List.mem_append_right _ (List.mem_append_right _ (List.mem_append_right _ (List.mem_append_left _ h)))))))))))))))))))))))))))))
theorem inr18 : ∀ w ∈ wsL_law_r18, w ∈ wsL_law := fun _ h => (List.mem_append_left _ (List.mem_append_left _ (List.mem_append_left _ (List.mem_append_left _ (List.mem_append_left _ (List.mem_append_left _ (List.mem_append_left _ (List.mem_append_left _ (List.mem_append_left _ (List.mem_append_left _ (List.mem_append_left _ (List.mem_append_left _ (List.mem_append_right _ (List.mem_append_right _ (List.mem_append_right _ (List.mem_append_right _ (List.mem_append_right _ (List.mem_append_right _ (List.mem_append_right _ (List.mem_append_right _ (List.mem_append_right _ (List.mem_append_right _ (List.mem_append_right _ (List.mem_append_right _ (List.mem_append_right _ (List.mem_append_right _ (List.mem_append_right _ (List.mem_append_right _ (List.mem_append_right _ (List.mem_append_left _ h))))))))))))))))))))))))))))))
theorem inr19 : ∀ w ∈ wsL_law_r19, w ∈ wsL_law := fun _ h => (List.mem_append_left _ (List.mem_append_left _ (List.mem_append_left _ (List.mem_append_left _ (List.mem_append_left _ (List.mem_append_left _ (List.mem_append_left _ (List.mem_append_left _ (List.mem_append_left _ (List.mem_append_left _ (List.mem_append_left _ (List.mem_append_left _ (List.mem_append_right _ (List.mem_append_right _ (List.mem_append_right _ (List.mem_append_right _ (List.mem_append_right _ (List.mem_append_right _ (List.mem_append_right _ (List.mem_append_right _ (List.mem_append_right _ (List.mem_append_right _ (List.mem_append_right _ (List.mem_append_right _ (List.mem_append_right _ (List.mem_append_right _ (List.mem_append_right _ (List.mem_append_right _ (List.mem_append_right _ (List.mem_append_right _ (List.mem_append_left _ h)))))))))))))))))))))))))))))))
theorem inr20 : ∀ w ∈ wsL_law_r20, w ∈ wsL_law := fun _ h => (List.mem_append_left _ (List.mem_append_left _ (List.mem_append_left _ (List.mem_append_left _ (List.mem_append_left _ (List.mem_append_left _ (List.mem_append_left _ (List.mem_append_left _ (List.mem_append_left _ (List.mem_append_left _ (List.mem_append_left _ (List.mem_append_left _ (List.mem_append_right _ (List.mem_append_right _ (List.mem_append_right _ (List.mem_append_right _ (List.mem_append_right _ (List.mem_append_right _ (List.mem_append_right _ (List.mem_append_right _ (List.mem_append_right _ (List.mem_append_right _ (List.mem_append_right _ (List.mem_append_right _ (List.mem_append_right _ (List.mem_append_right _ (List.mem_append_right _ (List.mem_append_right _ (List.mem_append_right _ (List.mem_append_right _ (List.mem_append_right _ (List.mem_append_left _ h))))))))))))))))))))))))))))))))
theorem inr21 : ∀ w ∈ wsL_law_r21, w ∈ wsL_law := fun _ h => (List.mem_append_left _ (List.mem_append_left _ (List.mem_append_left _ (List.mem_append_left _ (List.mem_append_left _ (List.mem_append_left _ (List.mem_append_left _ (List.mem_append_left _ (List.mem_append_left _ (List.mem_append_left _ (List.mem_append_left _ (List.mem_append_left _ (List.mem_append_right _ (List.mem_append_right _ (List.mem_append_right _ (List.mem_append_right _ (List.mem_append_right _ (List.mem_append_right _ (List.mem_append_right _ (List.mem_append_right _ (List.mem_append_right _ (List.mem_append_right _ (List.mem_append_right _ (List.mem_append_right _ (List.mem_append_right _ (List.mem_append_right _ (List.mem_append_right _ (List.mem_append_right _ (List.mem_append_right _ (List.mem_append_right _ (List.mem_append_right _ (List.mem_append_right _ (List.mem_append_left _ h)))))))))))))))))))))))))))))))))
theorem inr22 : ∀ w ∈ wsL_law_r22, w ∈ wsL_law := fun _ h => (List.mem_append_left _ (List.mem_append_left _ (List.mem_append_left _ (List.mem_append_left _ (List.mem_append_left _ (List.mem_append_left _ (List.mem_append_left _ (List.mem_append_left _ (List.mem_append_left _ (List.mem_append_left _ (List.mem_append_left _ (List.mem_append_left _ (List.mem_append_right _ (List.mem_append_right _ (List.mem_append_right _ (List.mem_append_right _ (List.mem_append_right _ (List.mem_append_right _ (List.mem_append_right _ (List.mem_append_right _ (List.mem_append_right _ (List.mem_append_right _ (List.mem_append_right _ (List.mem_append_right _ (List.mem_append_right _ (List.mem_append_right _ (List.mem_append_right _ (List.mem_append_right _ (List.mem_append_right _ (List.mem_append_right _ (List.mem_append_right _ (List.mem_append_right _ (List.mem_append_right _ (List.mem_append_left _ h))))))))))))))))))))))))))))))))))
theorem inr23 : ∀ w ∈ wsL_law_r23, w ∈ wsL_law := fun _ h => (List.mem_append_left _ (List.mem_append_left _ (List.mem_append_left _ (List.mem_append_left _ (List.mem_append_left _ (List.mem_append_left _ (List.mem_append_left _ (List.mem_append_left _ (List.mem_append_left _ (List.mem_append_left _ (List.mem_append_left _ (List.mem_append_left _ (List.mem_append_right _ (List.mem_append_right _ (List.mem_append_right _ (List.mem_append_right _ (List.mem_append_right _ (List.mem_append_right _ (List.mem_append_right _ (List.mem_append_right _ (List.mem_append_right _ (List.mem_append_right _ (List.mem_append_right _ (List.mem_append_right _ (List.mem_append_right _ (List.mem_append_right _ (List.mem_append_right _ (List.mem_append_right _ (List.mem_append_right _ (List.mem_append_right _ (List.mem_append_right _ (List.mem_append_right _ (List.mem_append_right _ (List.mem_append_right _ (List.mem_append_left _ h)))))))))))))))))))))))))))))))))))
theorem inr24 : ∀ w ∈ wsL_law_r24, w ∈ wsL_law := fun _ h => (List.mem_append_left _ (List.mem_append_left _ (List.mem_append_left _ (List.mem_append_left _ (List.mem_append_left _ (List.mem_append_left _ (List.mem_append_left _ (List.mem_append_left _ (List.mem_append_left _ (List.mem_append_left _ (List.mem_append_left _ (List.mem_append_left _ (List.mem_append_right _ (List.mem_append_right _ (List.mem_append_right _ (List.mem_append_right _ (List.mem_append_right _ (List.mem_append_right _ (List.mem_append_right _ (List.mem_append_right _ (List.mem_append_right _ (List.mem_append_right _ (List.mem_append_right _ (List.mem_append_right _ (List.mem_append_right _ (List.mem_append_right _ (List.mem_append_right _ (List.mem_append_right _ (List.mem_append_right _ (List.mem_append_right _ (List.mem_append_right _ (List.mem_append_right _ (List.mem_append_right _ (List.mem_append_right _ (List.mem_append_right _ (List.mem_append_left _ h))))))))))))))))))))))))))))))))))))
theorem inr25 : ∀ w ∈ wsL_law_r25, w ∈ wsL_law := fun _ h => (List.mem_append_left _ (List.mem_append_left _ (List.mem_append_left _ (List.mem_append_left _ (List.mem_append_left _ (List.mem_append_left _ (List.mem_append_left _ (List.mem_append_left _ (List.mem_append_left _ (List.mem_append_left _ (List.mem_append_left _ (List.mem_append_left _ (List.mem_append_right _ (List.mem_append_right _ (List.mem_append_right _ (List.mem_append_right _ (List.mem_append_right _ (List.mem_append_right _ (List.mem_append_right _ (List.mem_append_right _ (List.mem_append_right _ (List.mem_append_right _ (List.mem_append_right _ (List.mem_append_right _ (List.mem_append_right _ (List.mem_append_right _ (List.mem_append_right _ (List.mem_append_right _ (List.mem_append_right _ (List.mem_append_right _ (List.mem_append_right _ (List.mem_append_right _ (List.mem_append_right _ (List.mem_append_right _ (List.mem_append_right _ (List.mem_append_right _ (List.mem_append_left _ h)))))))))))))))))))))))))))))))))))))
theorem inr26 : ∀ w ∈ wsL_law_r26, w ∈ wsL_law := fun _ h => (List.mem_append_left _ (List.mem_append_left _ (List.mem_append_left _ (List.mem_append_left _ (List.mem_append_left _ (List.mem_append_left _ (List.mem_append_left _ (List.mem_append_left _ (List.mem_append_left _ (List.mem_append_left _ (List.mem_append_left _ (List.mem_append_left _ (List.mem_append_right _ (List.mem_append_right _ (List.mem_append_right _ (List.mem_append_right _ (List.mem_append_right _ (List.mem_append_right _ (List.mem_append_right _ (List.mem_append_right _ (List.mem_append_right _ (List.mem_append_right _ (List.mem_append_right _ (List.mem_append_right _ (List.mem_append_right _ (List.mem_append_right _ (List.mem_append_right _ (List.mem_append_right _ (List.mem_append_right _ (List.mem_append_right _ (List.mem_append_right _ (List.mem_append_right _ (List.mem_append_right _ (List.mem_append_right _ (List.mem_append_right _ (List.mem_append_right _ (List.mem_append_right _ (List.mem_append_left _ h))))))))))))))))))))))))))))))))))))))
theorem inr27 : ∀ w ∈ wsL_law_r27, w ∈ wsL_law := fun _ h => (List.mem_append_left _ (List.mem_append_left _ (List.mem_append_left _ (List.mem_append_left _ (List.mem_append_left _ (List.mem_append_left _ (List.mem_append_left _ (List.mem_append_left _ (List.mem_append_left _ (List.mem_append_left _ (List.mem_append_left _ (List.mem_append_left _ (List.mem_append_right _ (List.mem_append_right _ (List.mem_append_right _ (List.mem_append_right _ (List.mem_append_right _ (List.mem_append_right _ (List.mem_append_right _ (List.mem_append_right _ (List.mem_append_right _ (List.mem_append_right _ (List.mem_append_right _ (List.mem_append_right _ (List.mem_append_right _ (List.mem_append_right _ (List.mem_append_right _ (List.mem_append_right _ (List.mem_append_right _ (List.mem_append_right _ (List.mem_append_right _ (List.mem_append_right _ (List.mem_append_right _ (List.mem_append_right _ (List.mem_append_right _ (List.mem_append_right _ (List.mem_append_right _ (List.mem_append_right _ (List.mem_append_left _ h)))))))))))))))))))))))))))))))))))))))
theorem inr28 : ∀ w ∈ wsL_law_r28, w ∈ wsL_law := fun _ h => (List.mem_append_left _ (List.mem_append_left _ (List.mem_append_left _ (List.mem_append_left _ (List.mem_append_left _ (List.mem_append_left _ (List.mem_append_left _ (List.mem_append_left _ (List.mem_append_left _ (List.mem_append_left _ (List.mem_append_left _ (List.mem_append_left _ (List.mem_append_right _ (List.mem_append_right _ (List.mem_append_right _ (List.mem_append_right _ (List.mem_append_right _ (List.mem_append_right _ (List.mem_append_right _ (List.mem_append_right _ (List.mem_append_right _ (List.mem_append_right _ (List.mem_append_right _ (List.mem_append_right _ (List.mem_append_right _ (List.mem_append_right _ (List.mem_append_right _ (List.mem_append_right _ (List.mem_append_right _ (List.mem_append_right _ (List.mem_append_right _ (List.mem_append_right _ (List.mem_append_right _ (List.mem_append_right _ (List.mem_append_right _ (List.mem_append_right _ (List.mem_append_right _ (List.mem_append_right _ (List.mem_append_right _ (List.mem_append_left _ h))))))))))))))))))))))))))))))))))))))))
theorem inr29 : ∀ w ∈ wsL_law_r29, w ∈ wsL_law := fun _ h => (List.mem_append_left _ (List.mem_append_left _ (List.mem_append_left _ (List.mem_append_left _ (List.mem_append_left _ (List.mem_append_left _ (List.mem_append_left _ (List.mem_append_left _ (List.mem_append_left _ (List.mem_append_left _ (List.mem_append_left _ (List.mem_append_left _ (List.mem_append_right _ (List.mem_append_right _ (List.mem_append_right _ (List.mem_append_right _ (List.mem_append_right _ (List.mem_append_right _ (List.mem_append_right _ (List.mem_append_right _ (List.mem_append_right _ (List.mem_append_right _ (List.mem_append_right _ (List.mem_append_right _ (List.mem_append_right _ (List.mem_append_right _ (List.mem_append_right _ (List.mem_append_right _ (List.mem_append_right _ (List.mem_append_right _ (List.mem_append_right _ (List.mem_append_right _ (List.mem_append_right _ (List.mem_append_right _ (List.mem_append_right _ (List.mem_append_right _ (List.mem_append_right _ (List.mem_append_right _ (List.mem_append_right _ (List.mem_append_right _ (List.mem_append_left _ h)))))))))))))))))))))))))))))))))))))))))
theorem inr30 : ∀ w ∈ wsL_law_r30, w ∈ wsL_law := fun _ h => (List.mem_append_left _ (List.mem_append_left _ (List.mem_append_left _ (List.mem_append_left _ (List.mem_append_left _ (List.mem_append_left _ (List.mem_append_left _ (List.mem_append_left _ (List.mem_append_left _ (List.mem_append_left _ (List.mem_append_left _ (List.mem_append_left _ (List.mem_append_right _ (List.mem_append_right _ (List.mem_append_right _ (List.mem_append_right _ (List.mem_append_right _ (List.mem_append_right _ (List.mem_append_right _ (List.mem_append_right _ (List.mem_append_right _ (List.mem_append_right _ (List.mem_append_right _ (List.mem_append_right _ (List.mem_append_right _ (List.mem_append_right _ (List.mem_append_right _ (List.mem_append_right _ (List.mem_append_right _ (List.mem_append_right _ (List.mem_append_right _ (List.mem_append_right _ (List.mem_append_right _ (List.mem_append_right _ (List.mem_append_right _ (List.mem_append_right _ (List.mem_append_right _ (List.mem_append_right _ (List.mem_append_right _ (List.mem_append_right _ (List.mem_append_right _ (List.mem_append_left _ h))))))))))))))))))))))))))))))))))))))))))
theorem inr31 : ∀ w ∈ wsL_law_r31, w ∈ wsL_law := fun _ h => (List.mem_append_left _ (List.mem_append_left _ (List.mem_append_left _ (List.mem_append_left _ (List.mem_append_left _ (List.mem_append_left _ (List.mem_append_left _ (List.mem_append_left _ (List.mem_append_left _ (List.mem_append_left _ (List.mem_append_left _ (List.mem_append_left _ (List.mem_append_right _ (List.mem_append_right _ (List.mem_append_right _ (List.mem_append_right _ (List.mem_append_right _ (List.mem_append_right _ (List.mem_append_right _ (List.mem_append_right _ (List.mem_append_right _ (List.mem_append_right _ (List.mem_append_right _ (List.mem_append_right _ (List.mem_append_right _ (List.mem_append_right _ (List.mem_append_right _ (List.mem_append_right _ (List.mem_append_right _ (List.mem_append_right _ (List.mem_append_right _ (List.mem_append_right _ (List.mem_append_right _ (List.mem_append_right _ (List.mem_append_right _ (List.mem_append_right _ (List.mem_append_right _ (List.mem_append_right _ (List.mem_append_right _ (List.mem_append_right _ (List.mem_append_right _ (List.mem_append_right _ (List.mem_append_left _ h)))))))))))))))))))))))))))))))))))))))))))
theorem inr32 : ∀ w ∈ wsL_law_r32, w ∈ wsL_law := fun _ h => (List.mem_append_left _ (List.mem_append_left _ (List.mem_append_left _ (List.mem_append_left _ (List.mem_append_left _ (List.mem_append_left _ (List.mem_append_left _ (List.mem_append_left _ (List.mem_append_left _ (List.mem_append_left _ (List.mem_append_left _ (List.mem_append_left _ (List.mem_append_right _ (List.mem_append_right _ (List.mem_append_right _ (List.mem_append_right _ (List.mem_append_right _ (List.mem_append_right _ (List.mem_append_right _ (List.mem_append_right _ (List.mem_append_right _ (List.mem_append_right _ (List.mem_append_right _ (List.mem_append_right _ (List.mem_append_right _ (List.mem_append_right _ (List.mem_append_right _ (List.mem_append_right _ (List.mem_append_right _ (List.mem_append_right _ (List.mem_append_right _ (List.mem_append_right _ (List.mem_append_right _ (List.mem_append_right _ (List.mem_append_right _ (List.mem_append_right _ (List.mem_append_right _ (List.mem_append_right _ (List.mem_append_right _ (List.mem_append_right _ (List.mem_append_right _ (List.mem_append_right _ (List.mem_append_right _ (List.mem_append_left _ h))))))))))))))))))))))))))))))))))))))))))))
theorem inr33 : ∀ w ∈ wsL_law_r33, w ∈ wsL_law := fun _ h => (List.mem_append_left _ (List.mem_append_left _ (List.mem_append_left _ (List.mem_append_left _ (List.mem_append_left _ (List.mem_append_left _ (List.mem_append_left _ (List.mem_append_left _ (List.mem_append_left _ (List.mem_append_left _ (List.mem_append_left _ (List.mem_append_left _ (List.mem_append_right _ (List.mem_append_right _ (List.mem_append_right _ (List.mem_append_right _ (List.mem_append_right _ (List.mem_append_right _ (List.mem_append_right _ (List.mem_append_right _ (List.mem_append_right _ (List.mem_append_right _ (List.mem_append_right _ (List.mem_append_right _ (List.mem_append_right _ (List.mem_append_right _ (List.mem_append_right _ (List.mem_append_right _ (List.mem_append_right _ (List.mem_append_right _ (List.mem_append_right _ (List.mem_append_right _ (List.mem_append_right _ (List.mem_append_right _ (List.mem_append_right _ (List.mem_append_right _ (List.mem_append_right _ (List.mem_append_right _ (List.mem_append_right _ (List.mem_append_right _ (List.mem_append_right _ (List.mem_append_right _ (List.mem_append_right _ (List.mem_append_right _ (List.mem_append_left _ h)))))))))))))))))))))))))))))))))))))))))))))
theorem inr34 : ∀ w ∈ wsL_law_r34, w ∈ wsL_law := fun _ h => (List.mem_append_left _ (List.mem_append_left _ (List.mem_append_left _ (List.mem_append_left _ (List.mem_append_left _ (List.mem_append_left _ (List.mem_append_left _ (List.mem_append_left _ (List.mem_append_left _ (List.mem_append_left _ (List.mem_append_left _ (List.mem_append_left _ (List.mem_append_right _ (List.mem_append_right _ (List.mem_append_right _ (List.mem_append_right _ (List.mem_append_right _ (List.mem_append_right _ (List.mem_append_right _ (List.mem_append_right _ (List.mem_append_right _ (List.mem_append_right _ (List.mem_append_right _ (List.mem_append_right _ (List.mem_append_right _ (List.mem_append_right _ (List.mem_append_right _ (List.mem_append_right _ (List.mem_append_right _ (List.mem_append_right _ (List.mem_append_right _ (List.mem_append_right _ (List.mem_append_right _ (List.mem_append_right _ (List.mem_append_right _ (List.mem_append_right _ (List.mem_append_right _ (List.mem_append_right _ (List.mem_append_right _ (List.mem_append_right _ (List.mem_append_right _ (List.mem_append_right _ (List.mem_append_right _ (List.mem_append_right _ (List.mem_append_right _ (List.mem_append_left _ h))))))))))))))))))))))))))))))))))))))))))))))
theorem inr35 : ∀ w ∈ wsL_law_r35, w ∈ wsL_law := fun _ h => (List.mem_append_left _ (List.mem_append_left _ (List.mem_append_left _ (List.mem_append_left _ (List.mem_append_left _ (List.mem_append_left _ (List.mem_append_left _ (List.mem_append_left _ (List.mem_append_left _ (List.mem_append_left _ (List.mem_append_left _ (List.mem_append_left _ (List.mem_append_right _ (List.mem_append_right _ (List.mem_append_right _ (List.mem_append_right _ (List.mem_append_right _ (List.mem_append_right _ (List.mem_append_right _ (List.mem_append_right _ (List.mem_append_right _ (List.mem_append_right _ (List.mem_append_right _ (List.mem_append_right _ (List.mem_append_right _ (List.mem_append_right _ (List.mem_append_right _ (List.mem_append_right _ (List.mem_append_right _ (List.mem_append_right _ (List.mem_append_right _ (List.mem_append_right _ (List.mem_append_right _ (List.mem_append_right _ (List.mem_append_right _ (List.mem_append_right _ (List.mem_append_right _ (List.mem_append_right _ (List.mem_append_right _ (List.mem_append_right _ (List.mem_append_right _ (List.mem_append_right _ (List.mem_append_right _ (List.mem_append_right _ (List.mem_append_right _ (List.mem_append_right _ (List.mem_append_left _ h)))))))))))))))))))))))))))))))))))))))))))))))
theorem inr36 : ∀ w ∈ wsL_law_r36, w ∈ wsL_law := fun _ h => (List.mem_append_left _ (List.mem_append_left _ (List.mem_append_left _ (List.mem_append_left _ (List.mem_append_left _ (List.mem_append_left _ (List.mem_append_left _ (List.mem_append_left _ (List.mem_append_left _ (List.mem_append_left _ (List.mem_append_left _ (List.mem_append_left _ (List.mem_append_right _ (List.mem_append_right _ (List.mem_append_right _ (List.mem_append_right _ (List.mem_append_right _ (List.mem_append_right _ (List.mem_append_right _ (List.mem_append_right _ (List.mem_append_right _ (List.mem_append_right _ (List.mem_append_right _ (List.mem_append_right _ (List.mem_append_right _ (List.mem_append_right _ (List.mem_append_right _ (List.mem_append_right _ (List.mem_append_right _ (List.mem_append_right _ (List.mem_append_right _ (List.mem_append_right _ (List.mem_append_right _ (List.mem_append_right _ (List.mem_append_right _ (List.mem_append_right _ (List.mem_append_right _ (List.mem_append_right _ (List.mem_append_right _ (List.mem_append_right _ (List.mem_append_right _ (List.mem_append_right _ (List.mem_append_right _ (List.mem_append_right _ (List.mem_append_right _ (List.mem_append_right _ (List.mem_append_right _ h)))))))))))))))))))))))))))))))))))))))))))))))
theorem in_wsX90 : ∀ w ∈ wsX90, w ∈ wsL_law := fun _ h => (List.mem_append_left _ (List.mem_append_left _ (List.mem_append_left _ (List.mem_append_left _ (List.mem_append_left _ (List.mem_append_left _ (List.mem_append_left _ (List.mem_append_left _ (List.mem_append_left _ (List.mem_append_left _ (List.mem_append_left _ (List.mem_append_right _ h))))))))))))
theorem in_wsX100 : ∀ w ∈ wsX100, w ∈ wsL_law := fun _ h => (List.mem_append_left _ (List.mem_append_left _ (List.mem_append_left _ (List.mem_append_left _ (List.mem_append_left _ (List.mem_append_left _ (List.mem_append_left _ (List.mem_append_left _ (List.mem_append_left _ (List.mem_append_left _ (List.mem_append_right _ h)))))))))))
theorem in_wsX50 : ∀ w ∈ wsX50, w ∈ wsL_law := fun _ h => (List.mem_append_left _ (List.mem_append_left _ (List.mem_append_left _ (List.mem_append_left _ (List.mem_append_left _ (List.mem_append_left _ (List.mem_append_left _ (List.mem_append_left _ (List.mem_append_left _ (List.mem_append_right _ h))))))))))
theorem in_wsX20 : ∀ w ∈ wsX20, w ∈ wsL_law := fun _ h => (List.mem_append_left _ (List.mem_append_left _ (List.mem_append_left _ (List.mem_append_left _ (List.mem_append_left _ (List.mem_append_left _ (List.mem_append_left _ (List.mem_append_left _ (List.mem_append_right _ h)))))))))
theorem in_wsX60 : ∀ w ∈ wsX60, w ∈ wsL_law := fun _ h => (List.mem_append_left _ (List.mem_append_left _ (List.mem_append_left _ (List.mem_append_left _ (List.mem_append_left _ (List.mem_append_left _ (List.mem_append_left _ (List.mem_append_right _ h))))))))
theorem in_wsX30 : ∀ w ∈ wsX30, w ∈ wsL_law := fun _ h => (List.mem_append_left _ (List.mem_append_left _ (List.mem_append_left _ (List.mem_append_left _ (List.mem_append_left _ (List.mem_append_left _ (List.mem_append_right _ h)))))))
theorem in_wsX70 : ∀ w ∈ wsX70, w ∈ wsL_law := fun _ h => (List.mem_append_left _ (List.mem_append_left _ (List.mem_append_left _ (List.mem_append_left _ (List.mem_append_left _ (List.mem_append_right _ h))))))
theorem in_wsX00 : ∀ w ∈ wsX00, w ∈ wsL_law := fun _ h => (List.mem_append_left _ (List.mem_append_left _ (List.mem_append_left _ (List.mem_append_left _ (List.mem_append_right _ h)))))
theorem in_wsX10 : ∀ w ∈ wsX10, w ∈ wsL_law := fun _ h => (List.mem_append_left _ (List.mem_append_left _ (List.mem_append_left _ (List.mem_append_right _ h))))
theorem in_wsX40 : ∀ w ∈ wsX40, w ∈ wsL_law := fun _ h => (List.mem_append_left _ (List.mem_append_left _ (List.mem_append_right _ h)))
theorem in_wsX80 : ∀ w ∈ wsX80, w ∈ wsL_law := fun _ h => (List.mem_append_left _ (List.mem_append_right _ h))
abbrev vwCl : List vw_C := [(RX0, TX0, 2), (RX1, TX1, 3), (RX2, TX2, 7), (RX3, TX3, 5), (RX4, TX4, 7), (RX5, TX5, 6), (RX6, TX6, 3), (RX7, TX7, 3), (RX8, TX8, 3), (RX9, TX9, 11), (RX10, TX10, 33)]
