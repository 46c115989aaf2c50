def RX0 : String := "Pathparade$AllowedWalk"
def TX0 : u_T := fun k => match k with
  | 0 => ("Pathparade$AllowedWalk", "network", "LPathparade$Network;", true)
  | 1 => ("Pathparade$AllowedWalk", "lengths", "[I", true)
  | 2 => ("Pathparade$AllowedWalk", "found", "[I", true)
  | _ => ("Pathparade$AllowedWalk", "foundSize", "I", false)
def tyX0 : Nat → FieldType := fun k => match k with
  | 0 => .object "Pathparade$Network"
  | 1 => .array .int
  | 2 => .array .int
  | _ => .int
abbrev wsX00 : List Cond := u_ws RX0 TX0 4
theorem nmX0 : ∀ a, a < 4 → ∀ b, b < 4 → a ≠ b → (TX0 a).2.1 ≠ (TX0 b).2.1 := by decide +kernel
theorem tyX0_ok : ∀ k, k < 4 → parseFieldDescriptor (TX0 k).2.2.1 = some (tyX0 k) := by decide +kernel
abbrev cX0_init : ByteArray := prog_2_method_1_code
def yX0_init : MethodName := ⟨RX0, "<init>", "(LPathparade$Network;)V"⟩
abbrev cX0_find : ByteArray := prog_2_method_2_code
def yX0_find : MethodName := ⟨RX0, "find", "(II)I"⟩
abbrev cX0_measureTo : ByteArray := prog_2_method_3_code
def yX0_measureTo : MethodName := ⟨RX0, "measureTo", "(I)V"⟩
abbrev cX0_shortenAll : ByteArray := prog_2_method_4_code
def yX0_shortenAll : MethodName := ⟨RX0, "shortenAll", "(I)Z"⟩
abbrev cX0_lengthFrom : ByteArray := prog_2_method_5_code
def yX0_lengthFrom : MethodName := ⟨RX0, "lengthFrom", "(I)I"⟩
abbrev cX0_bestAfter : ByteArray := prog_2_method_6_code
def yX0_bestAfter : MethodName := ⟨RX0, "bestAfter", "(II)I"⟩
abbrev cX0_foundSize : ByteArray := prog_2_method_7_code
def yX0_foundSize : MethodName := ⟨RX0, "foundSize", "()I"⟩
abbrev cX0_foundEdge : ByteArray := prog_2_method_8_code
def yX0_foundEdge : MethodName := ⟨RX0, "foundEdge", "(I)I"⟩
def RX1 : String := "Pathparade$DisjointFlow"
def TX1 : u_T := fun k => match k with
  | 0 => ("Pathparade$DisjointFlow", "network", "LPathparade$Network;", true)
  | 1 => ("Pathparade$DisjointFlow", "tails", "[I", true)
  | 2 => ("Pathparade$DisjointFlow", "heads", "[I", true)
  | 3 => ("Pathparade$DisjointFlow", "lengths", "[I", true)
  | 4 => ("Pathparade$DisjointFlow", "rooms", "[I", true)
  | 5 => ("Pathparade$DisjointFlow", "flows", "[I", true)
  | 6 => ("Pathparade$DisjointFlow", "costs", "[I", true)
  | 7 => ("Pathparade$DisjointFlow", "arcs", "[I", true)
  | 8 => ("Pathparade$DisjointFlow", "source", "I", false)
  | _ => ("Pathparade$DisjointFlow", "target", "I", false)
def tyX1 : Nat → FieldType := fun k => match k with
  | 0 => .object "Pathparade$Network"
  | 1 => .array .int
  | 2 => .array .int
  | 3 => .array .int
  | 4 => .array .int
  | 5 => .array .int
  | 6 => .array .int
  | 7 => .array .int
  | 8 => .int
  | _ => .int
abbrev wsX10 : List Cond := u_ws RX1 TX1 10
theorem nmX1 : ∀ a, a < 10 → ∀ b, b < 10 → a ≠ b → (TX1 a).2.1 ≠ (TX1 b).2.1 := by decide +kernel
theorem tyX1_ok : ∀ k, k < 10 → parseFieldDescriptor (TX1 k).2.2.1 = some (tyX1 k) := by decide +kernel
abbrev cX1_init : ByteArray := prog_3_method_1_code
def yX1_init : MethodName := ⟨RX1, "<init>", "(LPathparade$Network;)V"⟩
abbrev cX1_pathTotal : ByteArray := prog_3_method_2_code
def yX1_pathTotal : MethodName := ⟨RX1, "pathTotal", "(IIZ)I"⟩
abbrev cX1_leastLength : ByteArray := prog_3_method_3_code
def yX1_leastLength : MethodName := ⟨RX1, "leastLength", "(IIIZ)I"⟩
abbrev cX1_layArcs : ByteArray := prog_3_method_4_code
def yX1_layArcs : MethodName := ⟨RX1, "layArcs", "(IIZ)V"⟩
abbrev cX1_layArc : ByteArray := prog_3_method_5_code
def yX1_layArc : MethodName := ⟨RX1, "layArc", "(IIII)V"⟩
abbrev cX1_pointBefore : ByteArray := prog_3_method_6_code
def yX1_pointBefore : MethodName := ⟨RX1, "pointBefore", "(I)I"⟩
abbrev cX1_pointBehind : ByteArray := prog_3_method_7_code
def yX1_pointBehind : MethodName := ⟨RX1, "pointBehind", "(I)I"⟩
abbrev cX1_addPath : ByteArray := prog_3_method_8_code
def yX1_addPath : MethodName := ⟨RX1, "addPath", "()I"⟩
abbrev cX1_cheapenAll : ByteArray := prog_3_method_9_code
def yX1_cheapenAll : MethodName := ⟨RX1, "cheapenAll", "()Z"⟩
abbrev cX1_reach : ByteArray := prog_3_method_10_code
def yX1_reach : MethodName := ⟨RX1, "reach", "(IIII)Z"⟩
abbrev cX1_send : ByteArray := prog_3_method_11_code
def yX1_send : MethodName := ⟨RX1, "send", "()V"⟩
def RX2 : String := "Pathparade$Distances"
def TX2 : u_T := fun k => match k with
  | 0 => ("Pathparade$Distances", "network", "LPathparade$Network;", true)
  | _ => ("Pathparade$Distances", "lengths", "[I", true)
def tyX2 : Nat → FieldType := fun k => match k with
  | 0 => .object "Pathparade$Network"
  | _ => .array .int
abbrev wsX20 : List Cond := u_ws RX2 TX2 2
theorem nmX2 : ∀ a, a < 2 → ∀ b, b < 2 → a ≠ b → (TX2 a).2.1 ≠ (TX2 b).2.1 := by decide +kernel
theorem tyX2_ok : ∀ k, k < 2 → parseFieldDescriptor (TX2 k).2.2.1 = some (tyX2 k) := by decide +kernel
abbrev cX2_init : ByteArray := prog_4_method_1_code
def yX2_init : MethodName := ⟨RX2, "<init>", "(LPathparade$Network;)V"⟩
abbrev cX2_measureTo : ByteArray := prog_4_method_2_code
def yX2_measureTo : MethodName := ⟨RX2, "measureTo", "(I)V"⟩
abbrev cX2_shortenAll : ByteArray := prog_4_method_3_code
def yX2_shortenAll : MethodName := ⟨RX2, "shortenAll", "()Z"⟩
abbrev cX2_ofNode : ByteArray := prog_4_method_4_code
def yX2_ofNode : MethodName := ⟨RX2, "ofNode", "(I)I"⟩
def RX3 : String := "Pathparade$Network"
def TX3 : u_T := fun k => match k with
  | 0 => ("Pathparade$Network", "tails", "[I", true)
  | 1 => ("Pathparade$Network", "heads", "[I", true)
  | 2 => ("Pathparade$Network", "lengths", "[I", true)
  | 3 => ("Pathparade$Network", "forbidden", "[I", true)
  | 4 => ("Pathparade$Network", "outEdges", "[I", true)
  | 5 => ("Pathparade$Network", "outStarts", "[I", true)
  | 6 => ("Pathparade$Network", "nodeTotal", "I", false)
  | 7 => ("Pathparade$Network", "edgeTotal", "I", false)
  | 8 => ("Pathparade$Network", "closedNodes", "I", false)
  | _ => ("Pathparade$Network", "closedEdges", "I", false)
def tyX3 : Nat → FieldType := fun k => match k with
  | 0 => .array .int
  | 1 => .array .int
  | 2 => .array .int
  | 3 => .array .int
  | 4 => .array .int
  | 5 => .array .int
  | 6 => .int
  | 7 => .int
  | 8 => .int
  | _ => .int
abbrev wsX30 : List Cond := u_ws RX3 TX3 10
theorem nmX3 : ∀ a, a < 10 → ∀ b, b < 10 → a ≠ b → (TX3 a).2.1 ≠ (TX3 b).2.1 := by decide +kernel
theorem tyX3_ok : ∀ k, k < 10 → parseFieldDescriptor (TX3 k).2.2.1 = some (tyX3 k) := by decide +kernel
abbrev cX3_init : ByteArray := prog_5_method_1_code
def yX3_init : MethodName := ⟨RX3, "<init>", "()V"⟩
abbrev cX3_clear : ByteArray := prog_5_method_2_code
def yX3_clear : MethodName := ⟨RX3, "clear", "(I)V"⟩
abbrev cX3_append : ByteArray := prog_5_method_3_code
def yX3_append : MethodName := ⟨RX3, "append", "(III)I"⟩
abbrev cX3_changeLength : ByteArray := prog_5_method_4_code
def yX3_changeLength : MethodName := ⟨RX3, "changeLength", "(II)I"⟩
abbrev cX3_switchEdge : ByteArray := prog_5_method_5_code
def yX3_switchEdge : MethodName := ⟨RX3, "switchEdge", "(I)Z"⟩
abbrev cX3_switchNode : ByteArray := prog_5_method_6_code
def yX3_switchNode : MethodName := ⟨RX3, "switchNode", "(I)Z"⟩
abbrev cX3_switchTurn : ByteArray := prog_5_method_7_code
def yX3_switchTurn : MethodName := ⟨RX3, "switchTurn", "(II)Z"⟩
abbrev cX3_listOutEdges : ByteArray := prog_5_method_8_code
def yX3_listOutEdges : MethodName := ⟨RX3, "listOutEdges", "()V"⟩
abbrev cX3_isUsable : ByteArray := prog_5_method_9_code
def yX3_isUsable : MethodName := ⟨RX3, "isUsable", "(I)Z"⟩
abbrev cX3_hasNode : ByteArray := prog_5_method_10_code
def yX3_hasNode : MethodName := ⟨RX3, "hasNode", "(I)Z"⟩
abbrev cX3_hasEdge : ByteArray := prog_5_method_11_code
def yX3_hasEdge : MethodName := ⟨RX3, "hasEdge", "(I)Z"⟩
abbrev cX3_hasRoom : ByteArray := prog_5_method_12_code
def yX3_hasRoom : MethodName := ⟨RX3, "hasRoom", "()Z"⟩
abbrev cX3_isForbidden : ByteArray := prog_5_method_13_code
def yX3_isForbidden : MethodName := ⟨RX3, "isForbidden", "(II)Z"⟩
abbrev cX3_nodeTotal : ByteArray := prog_5_method_14_code
def yX3_nodeTotal : MethodName := ⟨RX3, "nodeTotal", "()I"⟩
abbrev cX3_edgeTotal : ByteArray := prog_5_method_15_code
def yX3_edgeTotal : MethodName := ⟨RX3, "edgeTotal", "()I"⟩
abbrev cX3_usableTotal : ByteArray := prog_5_method_16_code
def yX3_usableTotal : MethodName := ⟨RX3, "usableTotal", "()I"⟩
abbrev cX3_tailOf : ByteArray := prog_5_method_17_code
def yX3_tailOf : MethodName := ⟨RX3, "tailOf", "(I)I"⟩
abbrev cX3_headOf : ByteArray := prog_5_method_18_code
def yX3_headOf : MethodName := ⟨RX3, "headOf", "(I)I"⟩
abbrev cX3_lengthOf : ByteArray := prog_5_method_19_code
def yX3_lengthOf : MethodName := ⟨RX3, "lengthOf", "(I)I"⟩
abbrev cX3_outEdge : ByteArray := prog_5_method_20_code
def yX3_outEdge : MethodName := ⟨RX3, "outEdge", "(I)I"⟩
abbrev cX3_outStart : ByteArray := prog_5_method_21_code
def yX3_outStart : MethodName := ⟨RX3, "outStart", "(I)I"⟩
abbrev cX3_outEnd : ByteArray := prog_5_method_22_code
def yX3_outEnd : MethodName := ⟨RX3, "outEnd", "(I)I"⟩
def RX4 : String := "Pathparade$PathCount"
def TX4 : u_T := fun k => match k with
  | 0 => ("Pathparade$PathCount", "network", "LPathparade$Network;", true)
  | 1 => ("Pathparade$PathCount", "distances", "LPathparade$Distances;", true)
  | _ => ("Pathparade$PathCount", "to", "I", false)
def tyX4 : Nat → FieldType := fun k => match k with
  | 0 => .object "Pathparade$Network"
  | 1 => .object "Pathparade$Distances"
  | _ => .int
abbrev wsX40 : List Cond := u_ws RX4 TX4 3
theorem nmX4 : ∀ a, a < 3 → ∀ b, b < 3 → a ≠ b → (TX4 a).2.1 ≠ (TX4 b).2.1 := by decide +kernel
theorem tyX4_ok : ∀ k, k < 3 → parseFieldDescriptor (TX4 k).2.2.1 = some (tyX4 k) := by decide +kernel
abbrev cX4_init : ByteArray := prog_6_method_1_code
def yX4_init : MethodName := ⟨RX4, "<init>", "(LPathparade$Network;)V"⟩
abbrev cX4_upTo : ByteArray := prog_6_method_2_code
def yX4_upTo : MethodName := ⟨RX4, "upTo", "(III)I"⟩
abbrev cX4_countFrom : ByteArray := prog_6_method_3_code
def yX4_countFrom : MethodName := ⟨RX4, "countFrom", "(LPathparade$PathCount;IIII)I"⟩
def RX5 : String := "Pathparade$PathDraw"
def TX5 : u_T := fun k => match k with
  | 0 => ("Pathparade$PathDraw", "network", "LPathparade$Network;", true)
  | 1 => ("Pathparade$PathDraw", "distances", "LPathparade$Distances;", true)
  | 2 => ("Pathparade$PathDraw", "page", "[J", true)
  | 3 => ("Pathparade$PathDraw", "pageSize", "I", false)
  | 4 => ("Pathparade$PathDraw", "pageNext", "I", false)
  | 5 => ("Pathparade$PathDraw", "from", "I", false)
  | 6 => ("Pathparade$PathDraw", "to", "I", false)
  | 7 => ("Pathparade$PathDraw", "drawn", "I", false)
  | _ => ("Pathparade$PathDraw", "current", "J", false)
def tyX5 : Nat → FieldType := fun k => match k with
  | 0 => .object "Pathparade$Network"
  | 1 => .object "Pathparade$Distances"
  | 2 => .array .long
  | 3 => .int
  | 4 => .int
  | 5 => .int
  | 6 => .int
  | 7 => .int
  | _ => .long
abbrev wsX50 : List Cond := u_ws RX5 TX5 9
theorem nmX5 : ∀ a, a < 9 → ∀ b, b < 9 → a ≠ b → (TX5 a).2.1 ≠ (TX5 b).2.1 := by decide +kernel
theorem tyX5_ok : ∀ k, k < 9 → parseFieldDescriptor (TX5 k).2.2.1 = some (tyX5 k) := by decide +kernel
abbrev cX5_init : ByteArray := prog_7_method_1_code
def yX5_init : MethodName := ⟨RX5, "<init>", "(LPathparade$Network;)V"⟩
abbrev cX5_restart : ByteArray := prog_7_method_2_code
def yX5_restart : MethodName := ⟨RX5, "restart", "(II)V"⟩
abbrev cX5_advance : ByteArray := prog_7_method_3_code
def yX5_advance : MethodName := ⟨RX5, "advance", "()Z"⟩
abbrev cX5_turnPage : ByteArray := prog_7_method_4_code
def yX5_turnPage : MethodName := ⟨RX5, "turnPage", "()V"⟩
abbrev cX5_explore : ByteArray := prog_7_method_5_code
def yX5_explore : MethodName := ⟨RX5, "explore", "(LPathparade$PathDraw;IIJI)V"⟩
abbrev cX5_leadsOn : ByteArray := prog_7_method_6_code
def yX5_leadsOn : MethodName := ⟨RX5, "leadsOn", "(IJ)Z"⟩
abbrev cX5_fits : ByteArray := prog_7_method_7_code
def yX5_fits : MethodName := ⟨RX5, "fits", "(J)Z"⟩
abbrev cX5_keep : ByteArray := prog_7_method_8_code
def yX5_keep : MethodName := ⟨RX5, "keep", "(J)V"⟩
abbrev cX5_ofLength : ByteArray := prog_7_method_9_code
def yX5_ofLength : MethodName := ⟨RX5, "ofLength", "(I)J"⟩
abbrev cX5_slotShift : ByteArray := prog_7_method_10_code
def yX5_slotShift : MethodName := ⟨RX5, "slotShift", "(I)I"⟩
abbrev cX5_drawnTotal : ByteArray := prog_7_method_11_code
def yX5_drawnTotal : MethodName := ⟨RX5, "drawnTotal", "()I"⟩
abbrev cX5_currentLength : ByteArray := prog_7_method_12_code
def yX5_currentLength : MethodName := ⟨RX5, "currentLength", "()I"⟩
abbrev cX5_currentEdge : ByteArray := prog_7_method_13_code
def yX5_currentEdge : MethodName := ⟨RX5, "currentEdge", "(I)I"⟩
abbrev cX5_currentSize : ByteArray := prog_7_method_14_code
def yX5_currentSize : MethodName := ⟨RX5, "currentSize", "()I"⟩
def RX6 : String := "Pathparade$WalkDraw"
def TX6 : u_T := fun k => match k with
  | 0 => ("Pathparade$WalkDraw", "network", "LPathparade$Network;", true)
  | 1 => ("Pathparade$WalkDraw", "lengths", "[I", true)
  | 2 => ("Pathparade$WalkDraw", "sizes", "[I", true)
  | 3 => ("Pathparade$WalkDraw", "firstEdges", "[I", true)
  | 4 => ("Pathparade$WalkDraw", "rests", "[I", true)
  | 5 => ("Pathparade$WalkDraw", "listed", "[I", true)
  | 6 => ("Pathparade$WalkDraw", "used", "[I", true)
  | 7 => ("Pathparade$WalkDraw", "from", "I", false)
  | _ => ("Pathparade$WalkDraw", "drawn", "I", false)
def tyX6 : Nat → FieldType := fun k => match k with
  | 0 => .object "Pathparade$Network"
  | 1 => .array .int
  | 2 => .array .int
  | 3 => .array .int
  | 4 => .array .int
  | 5 => .array .int
  | 6 => .array .int
  | 7 => .int
  | _ => .int
abbrev wsX60 : List Cond := u_ws RX6 TX6 9
theorem nmX6 : ∀ a, a < 9 → ∀ b, b < 9 → a ≠ b → (TX6 a).2.1 ≠ (TX6 b).2.1 := by decide +kernel
theorem tyX6_ok : ∀ k, k < 9 → parseFieldDescriptor (TX6 k).2.2.1 = some (tyX6 k) := by decide +kernel
abbrev cX6_init : ByteArray := prog_8_method_1_code
def yX6_init : MethodName := ⟨RX6, "<init>", "(LPathparade$Network;)V"⟩
abbrev cX6_restart : ByteArray := prog_8_method_2_code
def yX6_restart : MethodName := ⟨RX6, "restart", "(II)V"⟩
abbrev cX6_advance : ByteArray := prog_8_method_3_code
def yX6_advance : MethodName := ⟨RX6, "advance", "()Z"⟩
abbrev cX6_shortestEdge : ByteArray := prog_8_method_4_code
def yX6_shortestEdge : MethodName := ⟨RX6, "shortestEdge", "()I"⟩
abbrev cX6_putAhead : ByteArray := prog_8_method_5_code
def yX6_putAhead : MethodName := ⟨RX6, "putAhead", "(I)V"⟩
abbrev cX6_list : ByteArray := prog_8_method_6_code
def yX6_list : MethodName := ⟨RX6, "list", "(IIIII)V"⟩
abbrev cX6_entry : ByteArray := prog_8_method_7_code
def yX6_entry : MethodName := ⟨RX6, "entry", "(II)I"⟩
abbrev cX6_currentEntry : ByteArray := prog_8_method_8_code
def yX6_currentEntry : MethodName := ⟨RX6, "currentEntry", "()I"⟩
abbrev cX6_drawnTotal : ByteArray := prog_8_method_9_code
def yX6_drawnTotal : MethodName := ⟨RX6, "drawnTotal", "()I"⟩
abbrev cX6_currentLength : ByteArray := prog_8_method_10_code
def yX6_currentLength : MethodName := ⟨RX6, "currentLength", "()I"⟩
abbrev cX6_currentSize : ByteArray := prog_8_method_11_code
def yX6_currentSize : MethodName := ⟨RX6, "currentSize", "()I"⟩
abbrev cX6_currentEdge : ByteArray := prog_8_method_12_code
def yX6_currentEdge : MethodName := ⟨RX6, "currentEdge", "(I)I"⟩
def RX7 : String := "Pathparade"
def TX7 : u_T := fun k => match k with
  | 0 => ("Pathparade", "network", "LPathparade$Network;", true)
  | 1 => ("Pathparade", "distances", "LPathparade$Distances;", true)
  | 2 => ("Pathparade", "paths", "LPathparade$PathDraw;", true)
  | 3 => ("Pathparade", "pathCount", "LPathparade$PathCount;", true)
  | 4 => ("Pathparade", "walks", "LPathparade$WalkDraw;", true)
  | 5 => ("Pathparade", "disjoint", "LPathparade$DisjointFlow;", true)
  | 6 => ("Pathparade", "allowed", "LPathparade$AllowedWalk;", true)
  | 7 => ("Pathparade", "pathsStarted", "Z", false)
  | _ => ("Pathparade", "walksStarted", "Z", false)
def tyX7 : Nat → FieldType := fun k => match k with
  | 0 => .object "Pathparade$Network"
  | 1 => .object "Pathparade$Distances"
  | 2 => .object "Pathparade$PathDraw"
  | 3 => .object "Pathparade$PathCount"
  | 4 => .object "Pathparade$WalkDraw"
  | 5 => .object "Pathparade$DisjointFlow"
  | 6 => .object "Pathparade$AllowedWalk"
  | 7 => .boolean
  | _ => .boolean
abbrev wsX70 : List Cond := u_ws RX7 TX7 9
theorem nmX7 : ∀ a, a < 9 → ∀ b, b < 9 → a ≠ b → (TX7 a).2.1 ≠ (TX7 b).2.1 := by decide +kernel
theorem tyX7_ok : ∀ k, k < 9 → parseFieldDescriptor (TX7 k).2.2.1 = some (tyX7 k) := by decide +kernel
abbrev cX7_init : ByteArray := prog_1_method_1_code
def yX7_init : MethodName := ⟨RX7, "<init>", "()V"⟩
abbrev cX7_begin : ByteArray := prog_1_method_2_code
def yX7_begin : MethodName := ⟨RX7, "begin", "(I)V"⟩
abbrev cX7_addEdge : ByteArray := prog_1_method_3_code
def yX7_addEdge : MethodName := ⟨RX7, "addEdge", "(III)I"⟩
abbrev cX7_setLength : ByteArray := prog_1_method_4_code
def yX7_setLength : MethodName := ⟨RX7, "setLength", "(II)I"⟩
abbrev cX7_toggleEdge : ByteArray := prog_1_method_5_code
def yX7_toggleEdge : MethodName := ⟨RX7, "toggleEdge", "(I)Z"⟩
abbrev cX7_toggleNode : ByteArray := prog_1_method_6_code
def yX7_toggleNode : MethodName := ⟨RX7, "toggleNode", "(I)Z"⟩
abbrev cX7_toggleTurn : ByteArray := prog_1_method_7_code
def yX7_toggleTurn : MethodName := ⟨RX7, "toggleTurn", "(II)Z"⟩
abbrev cX7_nodes : ByteArray := prog_1_method_8_code
def yX7_nodes : MethodName := ⟨RX7, "nodes", "()I"⟩
abbrev cX7_edges : ByteArray := prog_1_method_9_code
def yX7_edges : MethodName := ⟨RX7, "edges", "()I"⟩
abbrev cX7_usableEdges : ByteArray := prog_1_method_10_code
def yX7_usableEdges : MethodName := ⟨RX7, "usableEdges", "()I"⟩
abbrev cX7_distance : ByteArray := prog_1_method_11_code
def yX7_distance : MethodName := ⟨RX7, "distance", "(II)I"⟩
abbrev cX7_startPaths : ByteArray := prog_1_method_12_code
def yX7_startPaths : MethodName := ⟨RX7, "startPaths", "(II)V"⟩
abbrev cX7_nextPath : ByteArray := prog_1_method_13_code
def yX7_nextPath : MethodName := ⟨RX7, "nextPath", "()I"⟩
abbrev cX7_pathsDrawn : ByteArray := prog_1_method_14_code
def yX7_pathsDrawn : MethodName := ⟨RX7, "pathsDrawn", "()I"⟩
abbrev cX7_pathEdges : ByteArray := prog_1_method_15_code
def yX7_pathEdges : MethodName := ⟨RX7, "pathEdges", "()I"⟩
abbrev cX7_pathEdge : ByteArray := prog_1_method_16_code
def yX7_pathEdge : MethodName := ⟨RX7, "pathEdge", "(I)I"⟩
abbrev cX7_countPaths : ByteArray := prog_1_method_17_code
def yX7_countPaths : MethodName := ⟨RX7, "countPaths", "(III)I"⟩
abbrev cX7_startWalks : ByteArray := prog_1_method_18_code
def yX7_startWalks : MethodName := ⟨RX7, "startWalks", "(II)V"⟩
abbrev cX7_nextWalk : ByteArray := prog_1_method_19_code
def yX7_nextWalk : MethodName := ⟨RX7, "nextWalk", "()I"⟩
abbrev cX7_walksDrawn : ByteArray := prog_1_method_20_code
def yX7_walksDrawn : MethodName := ⟨RX7, "walksDrawn", "()I"⟩
abbrev cX7_walkEdges : ByteArray := prog_1_method_21_code
def yX7_walkEdges : MethodName := ⟨RX7, "walkEdges", "()I"⟩
abbrev cX7_walkEdge : ByteArray := prog_1_method_22_code
def yX7_walkEdge : MethodName := ⟨RX7, "walkEdge", "(I)I"⟩
abbrev cX7_disjointPaths : ByteArray := prog_1_method_23_code
def yX7_disjointPaths : MethodName := ⟨RX7, "disjointPaths", "(IIZ)I"⟩
abbrev cX7_disjointLength : ByteArray := prog_1_method_24_code
def yX7_disjointLength : MethodName := ⟨RX7, "disjointLength", "(IIIZ)I"⟩
abbrev cX7_allowedLength : ByteArray := prog_1_method_25_code
def yX7_allowedLength : MethodName := ⟨RX7, "allowedLength", "(II)I"⟩
abbrev cX7_allowedEdges : ByteArray := prog_1_method_26_code
def yX7_allowedEdges : MethodName := ⟨RX7, "allowedEdges", "(II)I"⟩
abbrev cX7_allowedEdge : ByteArray := prog_1_method_27_code
def yX7_allowedEdge : MethodName := ⟨RX7, "allowedEdge", "(III)I"⟩
abbrev cX7_endDraws : ByteArray := prog_1_method_28_code
def yX7_endDraws : MethodName := ⟨RX7, "endDraws", "()V"⟩
abbrev cX7_requireNodes : ByteArray := prog_1_method_29_code
def yX7_requireNodes : MethodName := ⟨RX7, "requireNodes", "(II)V"⟩
abbrev cX7_requireTwoNodes : ByteArray := prog_1_method_30_code
def yX7_requireTwoNodes : MethodName := ⟨RX7, "requireTwoNodes", "(II)V"⟩
abbrev cX7_requireEdge : ByteArray := prog_1_method_31_code
def yX7_requireEdge : MethodName := ⟨RX7, "requireEdge", "(I)V"⟩
abbrev cX7_requireRange : ByteArray := prog_1_method_32_code
def yX7_requireRange : MethodName := ⟨RX7, "requireRange", "(III)V"⟩
abbrev cX7_requireStarted : ByteArray := prog_1_method_33_code
def yX7_requireStarted : MethodName := ⟨RX7, "requireStarted", "(Z)V"⟩
abbrev cX7_requireDrawn : ByteArray := prog_1_method_34_code
def yX7_requireDrawn : MethodName := ⟨RX7, "requireDrawn", "(I)V"⟩
abbrev cX7_requireListed : ByteArray := prog_1_method_35_code
def yX7_requireListed : MethodName := ⟨RX7, "requireListed", "(I)I"⟩
abbrev cX7_requireWay : ByteArray := prog_1_method_36_code
def yX7_requireWay : MethodName := ⟨RX7, "requireWay", "(I)I"⟩
abbrev cX7_at : ByteArray := prog_1_method_37_code
def yX7_at : MethodName := ⟨RX7, "at", "([II)I"⟩
abbrev cX7_put : ByteArray := prog_1_method_38_code
def yX7_put : MethodName := ⟨RX7, "put", "([III)V"⟩
abbrev cX7_at_ : ByteArray := prog_1_method_39_code
def yX7_at_ : MethodName := ⟨RX7, "at", "([JI)J"⟩
abbrev cX7_put_ : ByteArray := prog_1_method_40_code
def yX7_put_ : MethodName := ⟨RX7, "put", "([JIJ)V"⟩
abbrev cX7_hasBit : ByteArray := prog_1_method_41_code
def yX7_hasBit : MethodName := ⟨RX7, "hasBit", "(II)Z"⟩
def RX8 : String := "PathparadeModel"
def TX8 : u_T := fun k => match k with
  | _ => ("", "", "", false)
def tyX8 : Nat → FieldType := fun k => match k with
  | _ => .int
abbrev wsX80 : List Cond := u_ws RX8 TX8 0
theorem nmX8 : ∀ a, a < 0 → ∀ b, b < 0 → a ≠ b → (TX8 a).2.1 ≠ (TX8 b).2.1 := by decide +kernel
theorem tyX8_ok : ∀ k, k < 0 → parseFieldDescriptor (TX8 k).2.2.1 = some (tyX8 k) := by decide +kernel
def RJx145de : String := "java/io/Serializable"
def TJx145de : u_T := fun k => match k with
  | _ => ("", "", "", false)
def tyJx145de : Nat → FieldType := fun k => match k with
  | _ => .int
def RJ9 : String := "java/lang/Math"
def TJ9 : u_T := fun k => match k with
  | _ => ("", "", "", false)
def tyJ9 : Nat → FieldType := fun k => match k with
  | _ => .int
abbrev cJ9_min_7cf53 : ByteArray := prog_15_method_69_code
def yJ9_min_7cf53 : MethodName := ⟨RJ9, "min", "(II)I"⟩
def RJ0 : String := "java/lang/String"
def TJ0 : u_T := fun k => match k with
  | _ => ("", "", "", false)
def tyJ0 : Nat → FieldType := fun k => match k with
  | _ => .int
def RJ7 : String := "java/util/Arrays"
def TJ7 : u_T := fun k => match k with
  | _ => ("", "", "", false)
def tyJ7 : Nat → FieldType := fun k => match k with
  | _ => .int
abbrev cJ7_fill_53178 : ByteArray := prog_19_method_103_code
def yJ7_fill_53178 : MethodName := ⟨RJ7, "fill", "([II)V"⟩
def RL : String := "PathparadeLaw"
abbrev cL_cell : ByteArray := method_2_code
def yL_cell : MethodName := ⟨RL, "cell", "([II)I"⟩
abbrev cL_low : ByteArray := method_3_code
def yL_low : MethodName := ⟨RL, "low", "(II)I"⟩
abbrev cL_add : ByteArray := method_4_code
def yL_add : MethodName := ⟨RL, "add", "(LPathparade;III)I"⟩
abbrev cL_sets : ByteArray := method_5_code
def yL_sets : MethodName := ⟨RL, "sets", "(LPathparade;III)I"⟩
abbrev cL_starts : ByteArray := method_6_code
def yL_starts : MethodName := ⟨RL, "starts", "(LPathparade;III)I"⟩
abbrev cL_begin : ByteArray := method_7_code
def yL_begin : MethodName := ⟨RL, "begin", "(LPathparade;I)I"⟩
abbrev cL_startPaths : ByteArray := method_8_code
def yL_startPaths : MethodName := ⟨RL, "startPaths", "(LPathparade;II)I"⟩
abbrev cL_startWalks : ByteArray := method_9_code
def yL_startWalks : MethodName := ⟨RL, "startWalks", "(LPathparade;II)I"⟩
abbrev cL_draws : ByteArray := method_10_code
def yL_draws : MethodName := ⟨RL, "draws", "(LPathparade;II)I"⟩
abbrev cL_asks : ByteArray := method_11_code
def yL_asks : MethodName := ⟨RL, "asks", "(LPathparade;IIII)I"⟩
abbrev cL_act : ByteArray := method_12_code
def yL_act : MethodName := ⟨RL, "act", "(LPathparade;I)I"⟩
abbrev cL_areAlike : ByteArray := method_13_code
def yL_areAlike : MethodName := ⟨RL, "areAlike", "(LPathparade;LPathparade;I)Z"⟩
abbrev cL_arePathsSo : ByteArray := method_14_code
def yL_arePathsSo : MethodName := ⟨RL, "arePathsSo", "(LPathparade;II)Z"⟩
abbrev cL_areWalksSo : ByteArray := method_15_code
def yL_areWalksSo : MethodName := ⟨RL, "areWalksSo", "(LPathparade;II)Z"⟩
abbrev cL_areSetsSo : ByteArray := method_16_code
def yL_areSetsSo : MethodName := ⟨RL, "areSetsSo", "(LPathparade;II)Z"⟩
abbrev cL_law : ByteArray := code
def yL_law : MethodName := ⟨RL, "law", "([I)Z"⟩
theorem dX0_init_0 : decode cX0_init 0 = .ok (.aload_n 0, 1) := by decide +kernel
theorem dX0_init_1 : decode cX0_init 1 = .ok (.invokespecial 3, 3) := by decide +kernel
theorem dX0_init_4 : decode cX0_init 4 = .ok (.aload_n 0, 1) := by decide +kernel
theorem dX0_init_5 : decode cX0_init 5 = .ok (.bipush 24, 2) := by decide +kernel
theorem dX0_init_7 : decode cX0_init 7 = .ok (.newarray .int, 2) := by decide +kernel
theorem dX0_init_9 : decode cX0_init 9 = .ok (.putfield 9, 3) := by decide +kernel
theorem dX0_init_12 : decode cX0_init 12 = .ok (.aload_n 0, 1) := by decide +kernel
theorem dX0_init_13 : decode cX0_init 13 = .ok (.bipush 24, 2) := by decide +kernel
theorem dX0_init_15 : decode cX0_init 15 = .ok (.newarray .int, 2) := by decide +kernel
theorem dX0_init_17 : decode cX0_init 17 = .ok (.putfield 15, 3) := by decide +kernel
theorem dX0_init_20 : decode cX0_init 20 = .ok (.aload_n 0, 1) := by decide +kernel
theorem dX0_init_21 : decode cX0_init 21 = .ok (.aload_n 1, 1) := by decide +kernel
theorem dX0_init_22 : decode cX0_init 22 = .ok (.putfield 18, 3) := by decide +kernel
theorem dX0_init_25 : decode cX0_init 25 = .ok (.return_, 1) := by decide +kernel
theorem dX0_find_0 : decode cX0_find 0 = .ok (.aload_n 0, 1) := by decide +kernel
theorem dX0_find_1 : decode cX0_find 1 = .ok (.iconst 0, 1) := by decide +kernel
theorem dX0_find_2 : decode cX0_find 2 = .ok (.putfield 22, 3) := by decide +kernel
theorem dX0_find_5 : decode cX0_find 5 = .ok (.iload_n 1, 1) := by decide +kernel
theorem dX0_find_6 : decode cX0_find 6 = .ok (.iload_n 2, 1) := by decide +kernel
theorem dX0_find_7 : decode cX0_find 7 = .ok (.if_icmp .ne 5, 3) := by decide +kernel
theorem dX0_find_10 : decode cX0_find 10 = .ok (.iconst 0, 1) := by decide +kernel
theorem dX0_find_11 : decode cX0_find 11 = .ok (.ireturn, 1) := by decide +kernel
theorem dX0_find_12 : decode cX0_find 12 = .ok (.aload_n 0, 1) := by decide +kernel
theorem dX0_find_13 : decode cX0_find 13 = .ok (.iload_n 2, 1) := by decide +kernel
theorem dX0_find_14 : decode cX0_find 14 = .ok (.invokevirtual 26, 3) := by decide +kernel
theorem dX0_find_17 : decode cX0_find 17 = .ok (.aload_n 0, 1) := by decide +kernel
theorem dX0_find_18 : decode cX0_find 18 = .ok (.iconst (-1), 1) := by decide +kernel
theorem dX0_find_19 : decode cX0_find 19 = .ok (.iload_n 1, 1) := by decide +kernel
theorem dX0_find_20 : decode cX0_find 20 = .ok (.invokevirtual 30, 3) := by decide +kernel
theorem dX0_find_23 : decode cX0_find 23 = .ok (.istore_n 3, 1) := by decide +kernel
theorem dX0_find_24 : decode cX0_find 24 = .ok (.aload_n 0, 1) := by decide +kernel
theorem dX0_find_25 : decode cX0_find 25 = .ok (.iload_n 3, 1) := by decide +kernel
theorem dX0_find_26 : decode cX0_find 26 = .ok (.invokevirtual 34, 3) := by decide +kernel
theorem dX0_find_29 : decode cX0_find 29 = .ok (.istore 4, 2) := by decide +kernel
theorem dX0_find_31 : decode cX0_find 31 = .ok (.iload_n 3, 1) := by decide +kernel
theorem dX0_find_32 : decode cX0_find 32 = .ok (.iconst (-1), 1) := by decide +kernel
theorem dX0_find_33 : decode cX0_find 33 = .ok (.if_icmp .eq 65, 3) := by decide +kernel
theorem dX0_find_36 : decode cX0_find 36 = .ok (.aload_n 0, 1) := by decide +kernel
theorem dX0_find_37 : decode cX0_find 37 = .ok (.getfield 22, 3) := by decide +kernel
theorem dX0_find_40 : decode cX0_find 40 = .ok (.bipush 24, 2) := by decide +kernel
theorem dX0_find_42 : decode cX0_find 42 = .ok (.if_icmp .ge 56, 3) := by decide +kernel
theorem dX0_find_45 : decode cX0_find 45 = .ok (.aload_n 0, 1) := by decide +kernel
theorem dX0_find_46 : decode cX0_find 46 = .ok (.getfield 15, 3) := by decide +kernel
theorem dX0_find_49 : decode cX0_find 49 = .ok (.aload_n 0, 1) := by decide +kernel
theorem dX0_find_50 : decode cX0_find 50 = .ok (.getfield 22, 3) := by decide +kernel
theorem dX0_find_53 : decode cX0_find 53 = .ok (.iload_n 3, 1) := by decide +kernel
theorem dX0_find_54 : decode cX0_find 54 = .ok (.invokestatic 38, 3) := by decide +kernel
theorem dX0_find_57 : decode cX0_find 57 = .ok (.aload_n 0, 1) := by decide +kernel
theorem dX0_find_58 : decode cX0_find 58 = .ok (.dup, 1) := by decide +kernel
theorem dX0_find_59 : decode cX0_find 59 = .ok (.getfield 22, 3) := by decide +kernel
theorem dX0_find_62 : decode cX0_find 62 = .ok (.iconst 1, 1) := by decide +kernel
theorem dX0_find_63 : decode cX0_find 63 = .ok (.iadd, 1) := by decide +kernel
theorem dX0_find_64 : decode cX0_find 64 = .ok (.putfield 22, 3) := by decide +kernel
theorem dX0_find_67 : decode cX0_find 67 = .ok (.aload_n 0, 1) := by decide +kernel
theorem dX0_find_68 : decode cX0_find 68 = .ok (.getfield 18, 3) := by decide +kernel
theorem dX0_find_71 : decode cX0_find 71 = .ok (.iload_n 3, 1) := by decide +kernel
theorem dX0_find_72 : decode cX0_find 72 = .ok (.invokevirtual 42, 3) := by decide +kernel
theorem dX0_find_75 : decode cX0_find 75 = .ok (.istore 5, 2) := by decide +kernel
theorem dX0_find_77 : decode cX0_find 77 = .ok (.iload 5, 2) := by decide +kernel
theorem dX0_find_79 : decode cX0_find 79 = .ok (.iload_n 2, 1) := by decide +kernel
theorem dX0_find_80 : decode cX0_find 80 = .ok (.if_icmp .ne 7, 3) := by decide +kernel
theorem dX0_find_83 : decode cX0_find 83 = .ok (.iconst (-1), 1) := by decide +kernel
theorem dX0_find_84 : decode cX0_find 84 = .ok (.goto 10, 3) := by decide +kernel
theorem dX0_find_87 : decode cX0_find 87 = .ok (.aload_n 0, 1) := by decide +kernel
theorem dX0_find_88 : decode cX0_find 88 = .ok (.iload_n 3, 1) := by decide +kernel
theorem dX0_find_89 : decode cX0_find 89 = .ok (.iload 5, 2) := by decide +kernel
theorem dX0_find_91 : decode cX0_find 91 = .ok (.invokevirtual 30, 3) := by decide +kernel
theorem dX0_find_94 : decode cX0_find 94 = .ok (.istore_n 3, 1) := by decide +kernel
theorem dX0_find_95 : decode cX0_find 95 = .ok (.goto (-64), 3) := by decide +kernel
theorem dX0_find_98 : decode cX0_find 98 = .ok (.iload 4, 2) := by decide +kernel
theorem dX0_find_100 : decode cX0_find 100 = .ok (.ireturn, 1) := by decide +kernel
theorem dX0_measureTo_0 : decode cX0_measureTo 0 = .ok (.aload_n 0, 1) := by decide +kernel
theorem dX0_measureTo_1 : decode cX0_measureTo 1 = .ok (.getfield 9, 3) := by decide +kernel
theorem dX0_measureTo_4 : decode cX0_measureTo 4 = .ok (.ldc 47, 2) := by decide +kernel
theorem dX0_measureTo_6 : decode cX0_measureTo 6 = .ok (.invokestatic 48, 3) := by decide +kernel
theorem dX0_measureTo_9 : decode cX0_measureTo 9 = .ok (.iconst 1, 1) := by decide +kernel
theorem dX0_measureTo_10 : decode cX0_measureTo 10 = .ok (.istore_n 2, 1) := by decide +kernel
theorem dX0_measureTo_11 : decode cX0_measureTo 11 = .ok (.iconst 0, 1) := by decide +kernel
theorem dX0_measureTo_12 : decode cX0_measureTo 12 = .ok (.istore_n 3, 1) := by decide +kernel
theorem dX0_measureTo_13 : decode cX0_measureTo 13 = .ok (.iload_n 3, 1) := by decide +kernel
theorem dX0_measureTo_14 : decode cX0_measureTo 14 = .ok (.bipush 24, 2) := by decide +kernel
theorem dX0_measureTo_16 : decode cX0_measureTo 16 = .ok (.if_icmp .ge 19, 3) := by decide +kernel
theorem dX0_measureTo_19 : decode cX0_measureTo 19 = .ok (.iload_n 2, 1) := by decide +kernel
theorem dX0_measureTo_20 : decode cX0_measureTo 20 = .ok (.ifCond .eq 15, 3) := by decide +kernel
theorem dX0_measureTo_23 : decode cX0_measureTo 23 = .ok (.aload_n 0, 1) := by decide +kernel
theorem dX0_measureTo_24 : decode cX0_measureTo 24 = .ok (.iload_n 1, 1) := by decide +kernel
theorem dX0_measureTo_25 : decode cX0_measureTo 25 = .ok (.invokevirtual 54, 3) := by decide +kernel
theorem dX0_measureTo_28 : decode cX0_measureTo 28 = .ok (.istore_n 2, 1) := by decide +kernel
theorem dX0_measureTo_29 : decode cX0_measureTo 29 = .ok (.iinc 3 1, 3) := by decide +kernel
theorem dX0_measureTo_32 : decode cX0_measureTo 32 = .ok (.goto (-19), 3) := by decide +kernel
theorem dX0_measureTo_35 : decode cX0_measureTo 35 = .ok (.return_, 1) := by decide +kernel
theorem dX0_shortenAll_0 : decode cX0_shortenAll 0 = .ok (.iconst 0, 1) := by decide +kernel
theorem dX0_shortenAll_1 : decode cX0_shortenAll 1 = .ok (.istore_n 2, 1) := by decide +kernel
theorem dX0_shortenAll_2 : decode cX0_shortenAll 2 = .ok (.iconst 0, 1) := by decide +kernel
theorem dX0_shortenAll_3 : decode cX0_shortenAll 3 = .ok (.istore_n 3, 1) := by decide +kernel
theorem dX0_shortenAll_4 : decode cX0_shortenAll 4 = .ok (.iload_n 3, 1) := by decide +kernel
theorem dX0_shortenAll_5 : decode cX0_shortenAll 5 = .ok (.aload_n 0, 1) := by decide +kernel
theorem dX0_shortenAll_6 : decode cX0_shortenAll 6 = .ok (.getfield 18, 3) := by decide +kernel
theorem dX0_shortenAll_9 : decode cX0_shortenAll 9 = .ok (.invokevirtual 58, 3) := by decide +kernel
theorem dX0_shortenAll_12 : decode cX0_shortenAll 12 = .ok (.if_icmp .ge 92, 3) := by decide +kernel
theorem dX0_shortenAll_15 : decode cX0_shortenAll 15 = .ok (.aload_n 0, 1) := by decide +kernel
theorem dX0_shortenAll_16 : decode cX0_shortenAll 16 = .ok (.getfield 18, 3) := by decide +kernel
theorem dX0_shortenAll_19 : decode cX0_shortenAll 19 = .ok (.iload_n 3, 1) := by decide +kernel
theorem dX0_shortenAll_20 : decode cX0_shortenAll 20 = .ok (.invokevirtual 62, 3) := by decide +kernel
theorem dX0_shortenAll_23 : decode cX0_shortenAll 23 = .ok (.istore 4, 2) := by decide +kernel
theorem dX0_shortenAll_25 : decode cX0_shortenAll 25 = .ok (.aload_n 0, 1) := by decide +kernel
theorem dX0_shortenAll_26 : decode cX0_shortenAll 26 = .ok (.getfield 18, 3) := by decide +kernel
theorem dX0_shortenAll_29 : decode cX0_shortenAll 29 = .ok (.iload 4, 2) := by decide +kernel
theorem dX0_shortenAll_31 : decode cX0_shortenAll 31 = .ok (.invokevirtual 42, 3) := by decide +kernel
theorem dX0_shortenAll_34 : decode cX0_shortenAll 34 = .ok (.istore 5, 2) := by decide +kernel
theorem dX0_shortenAll_36 : decode cX0_shortenAll 36 = .ok (.iload 5, 2) := by decide +kernel
theorem dX0_shortenAll_38 : decode cX0_shortenAll 38 = .ok (.iload_n 1, 1) := by decide +kernel
theorem dX0_shortenAll_39 : decode cX0_shortenAll 39 = .ok (.if_icmp .ne 7, 3) := by decide +kernel
theorem dX0_shortenAll_42 : decode cX0_shortenAll 42 = .ok (.iconst 0, 1) := by decide +kernel
theorem dX0_shortenAll_43 : decode cX0_shortenAll 43 = .ok (.goto 15, 3) := by decide +kernel
theorem dX0_shortenAll_46 : decode cX0_shortenAll 46 = .ok (.aload_n 0, 1) := by decide +kernel
theorem dX0_shortenAll_47 : decode cX0_shortenAll 47 = .ok (.aload_n 0, 1) := by decide +kernel
theorem dX0_shortenAll_48 : decode cX0_shortenAll 48 = .ok (.iload 4, 2) := by decide +kernel
theorem dX0_shortenAll_50 : decode cX0_shortenAll 50 = .ok (.iload 5, 2) := by decide +kernel
theorem dX0_shortenAll_52 : decode cX0_shortenAll 52 = .ok (.invokevirtual 30, 3) := by decide +kernel
theorem dX0_shortenAll_55 : decode cX0_shortenAll 55 = .ok (.invokevirtual 34, 3) := by decide +kernel
theorem dX0_shortenAll_58 : decode cX0_shortenAll 58 = .ok (.istore 6, 2) := by decide +kernel
theorem dX0_shortenAll_60 : decode cX0_shortenAll 60 = .ok (.aload_n 0, 1) := by decide +kernel
theorem dX0_shortenAll_61 : decode cX0_shortenAll 61 = .ok (.getfield 18, 3) := by decide +kernel
theorem dX0_shortenAll_64 : decode cX0_shortenAll 64 = .ok (.iload 4, 2) := by decide +kernel
theorem dX0_shortenAll_66 : decode cX0_shortenAll 66 = .ok (.invokevirtual 65, 3) := by decide +kernel
theorem dX0_shortenAll_69 : decode cX0_shortenAll 69 = .ok (.iload 6, 2) := by decide +kernel
theorem dX0_shortenAll_71 : decode cX0_shortenAll 71 = .ok (.iadd, 1) := by decide +kernel
theorem dX0_shortenAll_72 : decode cX0_shortenAll 72 = .ok (.istore 7, 2) := by decide +kernel
theorem dX0_shortenAll_74 : decode cX0_shortenAll 74 = .ok (.iload 7, 2) := by decide +kernel
theorem dX0_shortenAll_76 : decode cX0_shortenAll 76 = .ok (.aload_n 0, 1) := by decide +kernel
theorem dX0_shortenAll_77 : decode cX0_shortenAll 77 = .ok (.iload 4, 2) := by decide +kernel
theorem dX0_shortenAll_79 : decode cX0_shortenAll 79 = .ok (.invokevirtual 34, 3) := by decide +kernel
theorem dX0_shortenAll_82 : decode cX0_shortenAll 82 = .ok (.if_icmp .ge 16, 3) := by decide +kernel
theorem dX0_shortenAll_85 : decode cX0_shortenAll 85 = .ok (.aload_n 0, 1) := by decide +kernel
theorem dX0_shortenAll_86 : decode cX0_shortenAll 86 = .ok (.getfield 9, 3) := by decide +kernel
theorem dX0_shortenAll_89 : decode cX0_shortenAll 89 = .ok (.iload 4, 2) := by decide +kernel
theorem dX0_shortenAll_91 : decode cX0_shortenAll 91 = .ok (.iload 7, 2) := by decide +kernel
theorem dX0_shortenAll_93 : decode cX0_shortenAll 93 = .ok (.invokestatic 38, 3) := by decide +kernel
theorem dX0_shortenAll_96 : decode cX0_shortenAll 96 = .ok (.iconst 1, 1) := by decide +kernel
theorem dX0_shortenAll_97 : decode cX0_shortenAll 97 = .ok (.istore_n 2, 1) := by decide +kernel
theorem dX0_shortenAll_98 : decode cX0_shortenAll 98 = .ok (.iinc 3 1, 3) := by decide +kernel
theorem dX0_shortenAll_101 : decode cX0_shortenAll 101 = .ok (.goto (-97), 3) := by decide +kernel
theorem dX0_shortenAll_104 : decode cX0_shortenAll 104 = .ok (.iload_n 2, 1) := by decide +kernel
theorem dX0_shortenAll_105 : decode cX0_shortenAll 105 = .ok (.ireturn, 1) := by decide +kernel
theorem dX0_lengthFrom_0 : decode cX0_lengthFrom 0 = .ok (.iload_n 1, 1) := by decide +kernel
theorem dX0_lengthFrom_1 : decode cX0_lengthFrom 1 = .ok (.iconst (-1), 1) := by decide +kernel
theorem dX0_lengthFrom_2 : decode cX0_lengthFrom 2 = .ok (.if_icmp .ne 8, 3) := by decide +kernel
theorem dX0_lengthFrom_5 : decode cX0_lengthFrom 5 = .ok (.ldc 47, 2) := by decide +kernel
theorem dX0_lengthFrom_7 : decode cX0_lengthFrom 7 = .ok (.goto 11, 3) := by decide +kernel
theorem dX0_lengthFrom_10 : decode cX0_lengthFrom 10 = .ok (.aload_n 0, 1) := by decide +kernel
theorem dX0_lengthFrom_11 : decode cX0_lengthFrom 11 = .ok (.getfield 9, 3) := by decide +kernel
theorem dX0_lengthFrom_14 : decode cX0_lengthFrom 14 = .ok (.iload_n 1, 1) := by decide +kernel
theorem dX0_lengthFrom_15 : decode cX0_lengthFrom 15 = .ok (.invokestatic 68, 3) := by decide +kernel
theorem dX0_lengthFrom_18 : decode cX0_lengthFrom 18 = .ok (.ireturn, 1) := by decide +kernel
theorem dX0_bestAfter_0 : decode cX0_bestAfter 0 = .ok (.iconst (-1), 1) := by decide +kernel
theorem dX0_bestAfter_1 : decode cX0_bestAfter 1 = .ok (.istore_n 3, 1) := by decide +kernel
theorem dX0_bestAfter_2 : decode cX0_bestAfter 2 = .ok (.ldc 47, 2) := by decide +kernel
theorem dX0_bestAfter_4 : decode cX0_bestAfter 4 = .ok (.istore 4, 2) := by decide +kernel
theorem dX0_bestAfter_6 : decode cX0_bestAfter 6 = .ok (.aload_n 0, 1) := by decide +kernel
theorem dX0_bestAfter_7 : decode cX0_bestAfter 7 = .ok (.getfield 18, 3) := by decide +kernel
theorem dX0_bestAfter_10 : decode cX0_bestAfter 10 = .ok (.iload_n 2, 1) := by decide +kernel
theorem dX0_bestAfter_11 : decode cX0_bestAfter 11 = .ok (.invokevirtual 72, 3) := by decide +kernel
theorem dX0_bestAfter_14 : decode cX0_bestAfter 14 = .ok (.istore 5, 2) := by decide +kernel
theorem dX0_bestAfter_16 : decode cX0_bestAfter 16 = .ok (.iload 5, 2) := by decide +kernel
theorem dX0_bestAfter_18 : decode cX0_bestAfter 18 = .ok (.aload_n 0, 1) := by decide +kernel
theorem dX0_bestAfter_19 : decode cX0_bestAfter 19 = .ok (.getfield 18, 3) := by decide +kernel
theorem dX0_bestAfter_22 : decode cX0_bestAfter 22 = .ok (.iload_n 2, 1) := by decide +kernel
theorem dX0_bestAfter_23 : decode cX0_bestAfter 23 = .ok (.invokevirtual 75, 3) := by decide +kernel
theorem dX0_bestAfter_26 : decode cX0_bestAfter 26 = .ok (.if_icmp .ge 72, 3) := by decide +kernel
theorem dX0_bestAfter_29 : decode cX0_bestAfter 29 = .ok (.aload_n 0, 1) := by decide +kernel
theorem dX0_bestAfter_30 : decode cX0_bestAfter 30 = .ok (.getfield 18, 3) := by decide +kernel
theorem dX0_bestAfter_33 : decode cX0_bestAfter 33 = .ok (.iload 5, 2) := by decide +kernel
theorem dX0_bestAfter_35 : decode cX0_bestAfter 35 = .ok (.invokevirtual 62, 3) := by decide +kernel
theorem dX0_bestAfter_38 : decode cX0_bestAfter 38 = .ok (.istore 6, 2) := by decide +kernel
theorem dX0_bestAfter_40 : decode cX0_bestAfter 40 = .ok (.iload_n 1, 1) := by decide +kernel
theorem dX0_bestAfter_41 : decode cX0_bestAfter 41 = .ok (.iconst (-1), 1) := by decide +kernel
theorem dX0_bestAfter_42 : decode cX0_bestAfter 42 = .ok (.if_icmp .eq 20, 3) := by decide +kernel
theorem dX0_bestAfter_45 : decode cX0_bestAfter 45 = .ok (.aload_n 0, 1) := by decide +kernel
theorem dX0_bestAfter_46 : decode cX0_bestAfter 46 = .ok (.getfield 18, 3) := by decide +kernel
theorem dX0_bestAfter_49 : decode cX0_bestAfter 49 = .ok (.iload_n 1, 1) := by decide +kernel
theorem dX0_bestAfter_50 : decode cX0_bestAfter 50 = .ok (.iload 6, 2) := by decide +kernel
theorem dX0_bestAfter_52 : decode cX0_bestAfter 52 = .ok (.invokevirtual 78, 3) := by decide +kernel
theorem dX0_bestAfter_55 : decode cX0_bestAfter 55 = .ok (.ifCond .eq 7, 3) := by decide +kernel
theorem dX0_bestAfter_58 : decode cX0_bestAfter 58 = .ok (.iconst 1, 1) := by decide +kernel
theorem dX0_bestAfter_59 : decode cX0_bestAfter 59 = .ok (.goto 4, 3) := by decide +kernel
theorem dX0_bestAfter_62 : decode cX0_bestAfter 62 = .ok (.iconst 0, 1) := by decide +kernel
theorem dX0_bestAfter_63 : decode cX0_bestAfter 63 = .ok (.istore 7, 2) := by decide +kernel
theorem dX0_bestAfter_65 : decode cX0_bestAfter 65 = .ok (.iload 7, 2) := by decide +kernel
theorem dX0_bestAfter_67 : decode cX0_bestAfter 67 = .ok (.ifCond .ne 25, 3) := by decide +kernel
theorem dX0_bestAfter_70 : decode cX0_bestAfter 70 = .ok (.aload_n 0, 1) := by decide +kernel
theorem dX0_bestAfter_71 : decode cX0_bestAfter 71 = .ok (.iload 6, 2) := by decide +kernel
theorem dX0_bestAfter_73 : decode cX0_bestAfter 73 = .ok (.invokevirtual 34, 3) := by decide +kernel
theorem dX0_bestAfter_76 : decode cX0_bestAfter 76 = .ok (.iload 4, 2) := by decide +kernel
theorem dX0_bestAfter_78 : decode cX0_bestAfter 78 = .ok (.if_icmp .ge 14, 3) := by decide +kernel
theorem dX0_bestAfter_81 : decode cX0_bestAfter 81 = .ok (.aload_n 0, 1) := by decide +kernel
theorem dX0_bestAfter_82 : decode cX0_bestAfter 82 = .ok (.iload 6, 2) := by decide +kernel
theorem dX0_bestAfter_84 : decode cX0_bestAfter 84 = .ok (.invokevirtual 34, 3) := by decide +kernel
theorem dX0_bestAfter_87 : decode cX0_bestAfter 87 = .ok (.istore 4, 2) := by decide +kernel
theorem dX0_bestAfter_89 : decode cX0_bestAfter 89 = .ok (.iload 6, 2) := by decide +kernel
theorem dX0_bestAfter_91 : decode cX0_bestAfter 91 = .ok (.istore_n 3, 1) := by decide +kernel
theorem dX0_bestAfter_92 : decode cX0_bestAfter 92 = .ok (.iinc 5 1, 3) := by decide +kernel
theorem dX0_bestAfter_95 : decode cX0_bestAfter 95 = .ok (.goto (-79), 3) := by decide +kernel
theorem dX0_bestAfter_98 : decode cX0_bestAfter 98 = .ok (.iload_n 3, 1) := by decide +kernel
theorem dX0_bestAfter_99 : decode cX0_bestAfter 99 = .ok (.ireturn, 1) := by decide +kernel
theorem dX0_foundSize_0 : decode cX0_foundSize 0 = .ok (.aload_n 0, 1) := by decide +kernel
theorem dX0_foundSize_1 : decode cX0_foundSize 1 = .ok (.getfield 22, 3) := by decide +kernel
theorem dX0_foundSize_4 : decode cX0_foundSize 4 = .ok (.ireturn, 1) := by decide +kernel
theorem dX0_foundEdge_0 : decode cX0_foundEdge 0 = .ok (.iload_n 1, 1) := by decide +kernel
theorem dX0_foundEdge_1 : decode cX0_foundEdge 1 = .ok (.ifCond .lt 22, 3) := by decide +kernel
theorem dX0_foundEdge_4 : decode cX0_foundEdge 4 = .ok (.iload_n 1, 1) := by decide +kernel
theorem dX0_foundEdge_5 : decode cX0_foundEdge 5 = .ok (.aload_n 0, 1) := by decide +kernel
theorem dX0_foundEdge_6 : decode cX0_foundEdge 6 = .ok (.getfield 22, 3) := by decide +kernel
theorem dX0_foundEdge_9 : decode cX0_foundEdge 9 = .ok (.if_icmp .ge 14, 3) := by decide +kernel
theorem dX0_foundEdge_12 : decode cX0_foundEdge 12 = .ok (.aload_n 0, 1) := by decide +kernel
theorem dX0_foundEdge_13 : decode cX0_foundEdge 13 = .ok (.getfield 15, 3) := by decide +kernel
theorem dX0_foundEdge_16 : decode cX0_foundEdge 16 = .ok (.iload_n 1, 1) := by decide +kernel
theorem dX0_foundEdge_17 : decode cX0_foundEdge 17 = .ok (.invokestatic 68, 3) := by decide +kernel
theorem dX0_foundEdge_20 : decode cX0_foundEdge 20 = .ok (.goto 4, 3) := by decide +kernel
theorem dX0_foundEdge_23 : decode cX0_foundEdge 23 = .ok (.iconst (-1), 1) := by decide +kernel
theorem dX0_foundEdge_24 : decode cX0_foundEdge 24 = .ok (.ireturn, 1) := by decide +kernel
theorem dX1_init_0 : decode cX1_init 0 = .ok (.aload_n 0, 1) := by decide +kernel
theorem dX1_init_1 : decode cX1_init 1 = .ok (.invokespecial 3, 3) := by decide +kernel
theorem dX1_init_4 : decode cX1_init 4 = .ok (.aload_n 0, 1) := by decide +kernel
theorem dX1_init_5 : decode cX1_init 5 = .ok (.bipush 34, 2) := by decide +kernel
theorem dX1_init_7 : decode cX1_init 7 = .ok (.newarray .int, 2) := by decide +kernel
theorem dX1_init_9 : decode cX1_init 9 = .ok (.putfield 11, 3) := by decide +kernel
theorem dX1_init_12 : decode cX1_init 12 = .ok (.aload_n 0, 1) := by decide +kernel
theorem dX1_init_13 : decode cX1_init 13 = .ok (.bipush 34, 2) := by decide +kernel
theorem dX1_init_15 : decode cX1_init 15 = .ok (.newarray .int, 2) := by decide +kernel
theorem dX1_init_17 : decode cX1_init 17 = .ok (.putfield 15, 3) := by decide +kernel
theorem dX1_init_20 : decode cX1_init 20 = .ok (.aload_n 0, 1) := by decide +kernel
theorem dX1_init_21 : decode cX1_init 21 = .ok (.bipush 34, 2) := by decide +kernel
theorem dX1_init_23 : decode cX1_init 23 = .ok (.newarray .int, 2) := by decide +kernel
theorem dX1_init_25 : decode cX1_init 25 = .ok (.putfield 18, 3) := by decide +kernel
theorem dX1_init_28 : decode cX1_init 28 = .ok (.aload_n 0, 1) := by decide +kernel
theorem dX1_init_29 : decode cX1_init 29 = .ok (.bipush 34, 2) := by decide +kernel
theorem dX1_init_31 : decode cX1_init 31 = .ok (.newarray .int, 2) := by decide +kernel
theorem dX1_init_33 : decode cX1_init 33 = .ok (.putfield 21, 3) := by decide +kernel
theorem dX1_init_36 : decode cX1_init 36 = .ok (.aload_n 0, 1) := by decide +kernel
theorem dX1_init_37 : decode cX1_init 37 = .ok (.bipush 34, 2) := by decide +kernel
theorem dX1_init_39 : decode cX1_init 39 = .ok (.newarray .int, 2) := by decide +kernel
theorem dX1_init_41 : decode cX1_init 41 = .ok (.putfield 24, 3) := by decide +kernel
theorem dX1_init_44 : decode cX1_init 44 = .ok (.aload_n 0, 1) := by decide +kernel
theorem dX1_init_45 : decode cX1_init 45 = .ok (.bipush 20, 2) := by decide +kernel
theorem dX1_init_47 : decode cX1_init 47 = .ok (.newarray .int, 2) := by decide +kernel
theorem dX1_init_49 : decode cX1_init 49 = .ok (.putfield 27, 3) := by decide +kernel
theorem dX1_init_52 : decode cX1_init 52 = .ok (.aload_n 0, 1) := by decide +kernel
theorem dX1_init_53 : decode cX1_init 53 = .ok (.bipush 20, 2) := by decide +kernel
theorem dX1_init_55 : decode cX1_init 55 = .ok (.newarray .int, 2) := by decide +kernel
theorem dX1_init_57 : decode cX1_init 57 = .ok (.putfield 30, 3) := by decide +kernel
theorem dX1_init_60 : decode cX1_init 60 = .ok (.aload_n 0, 1) := by decide +kernel
theorem dX1_init_61 : decode cX1_init 61 = .ok (.aload_n 1, 1) := by decide +kernel
theorem dX1_init_62 : decode cX1_init 62 = .ok (.putfield 33, 3) := by decide +kernel
theorem dX1_init_65 : decode cX1_init 65 = .ok (.return_, 1) := by decide +kernel
theorem dX1_pathTotal_0 : decode cX1_pathTotal 0 = .ok (.aload_n 0, 1) := by decide +kernel
theorem dX1_pathTotal_1 : decode cX1_pathTotal 1 = .ok (.iload_n 1, 1) := by decide +kernel
theorem dX1_pathTotal_2 : decode cX1_pathTotal 2 = .ok (.iload_n 2, 1) := by decide +kernel
theorem dX1_pathTotal_3 : decode cX1_pathTotal 3 = .ok (.iload_n 3, 1) := by decide +kernel
theorem dX1_pathTotal_4 : decode cX1_pathTotal 4 = .ok (.invokevirtual 37, 3) := by decide +kernel
theorem dX1_pathTotal_7 : decode cX1_pathTotal 7 = .ok (.iconst 0, 1) := by decide +kernel
theorem dX1_pathTotal_8 : decode cX1_pathTotal 8 = .ok (.istore 4, 2) := by decide +kernel
theorem dX1_pathTotal_10 : decode cX1_pathTotal 10 = .ok (.iload 4, 2) := by decide +kernel
theorem dX1_pathTotal_12 : decode cX1_pathTotal 12 = .ok (.bipush 24, 2) := by decide +kernel
theorem dX1_pathTotal_14 : decode cX1_pathTotal 14 = .ok (.if_icmp .ge 18, 3) := by decide +kernel
theorem dX1_pathTotal_17 : decode cX1_pathTotal 17 = .ok (.aload_n 0, 1) := by decide +kernel
theorem dX1_pathTotal_18 : decode cX1_pathTotal 18 = .ok (.invokevirtual 41, 3) := by decide +kernel
theorem dX1_pathTotal_21 : decode cX1_pathTotal 21 = .ok (.ldc 45, 2) := by decide +kernel
theorem dX1_pathTotal_23 : decode cX1_pathTotal 23 = .ok (.if_icmp .ge 9, 3) := by decide +kernel
theorem dX1_pathTotal_26 : decode cX1_pathTotal 26 = .ok (.iinc 4 1, 3) := by decide +kernel
theorem dX1_pathTotal_29 : decode cX1_pathTotal 29 = .ok (.goto (-19), 3) := by decide +kernel
theorem dX1_pathTotal_32 : decode cX1_pathTotal 32 = .ok (.iload 4, 2) := by decide +kernel
theorem dX1_pathTotal_34 : decode cX1_pathTotal 34 = .ok (.ireturn, 1) := by decide +kernel
theorem dX1_leastLength_0 : decode cX1_leastLength 0 = .ok (.aload_n 0, 1) := by decide +kernel
theorem dX1_leastLength_1 : decode cX1_leastLength 1 = .ok (.iload_n 1, 1) := by decide +kernel
theorem dX1_leastLength_2 : decode cX1_leastLength 2 = .ok (.iload_n 2, 1) := by decide +kernel
theorem dX1_leastLength_3 : decode cX1_leastLength 3 = .ok (.iload 4, 2) := by decide +kernel
theorem dX1_leastLength_5 : decode cX1_leastLength 5 = .ok (.invokevirtual 37, 3) := by decide +kernel
theorem dX1_leastLength_8 : decode cX1_leastLength 8 = .ok (.iconst 0, 1) := by decide +kernel
theorem dX1_leastLength_9 : decode cX1_leastLength 9 = .ok (.istore 5, 2) := by decide +kernel
theorem dX1_leastLength_11 : decode cX1_leastLength 11 = .ok (.iconst 0, 1) := by decide +kernel
theorem dX1_leastLength_12 : decode cX1_leastLength 12 = .ok (.istore 6, 2) := by decide +kernel
theorem dX1_leastLength_14 : decode cX1_leastLength 14 = .ok (.iload 6, 2) := by decide +kernel
theorem dX1_leastLength_16 : decode cX1_leastLength 16 = .ok (.iload_n 3, 1) := by decide +kernel
theorem dX1_leastLength_17 : decode cX1_leastLength 17 = .ok (.if_icmp .ge 25, 3) := by decide +kernel
theorem dX1_leastLength_20 : decode cX1_leastLength 20 = .ok (.iload 5, 2) := by decide +kernel
theorem dX1_leastLength_22 : decode cX1_leastLength 22 = .ok (.ldc 45, 2) := by decide +kernel
theorem dX1_leastLength_24 : decode cX1_leastLength 24 = .ok (.if_icmp .ge 18, 3) := by decide +kernel
theorem dX1_leastLength_27 : decode cX1_leastLength 27 = .ok (.iload 5, 2) := by decide +kernel
theorem dX1_leastLength_29 : decode cX1_leastLength 29 = .ok (.aload_n 0, 1) := by decide +kernel
theorem dX1_leastLength_30 : decode cX1_leastLength 30 = .ok (.invokevirtual 41, 3) := by decide +kernel
theorem dX1_leastLength_33 : decode cX1_leastLength 33 = .ok (.iadd, 1) := by decide +kernel
theorem dX1_leastLength_34 : decode cX1_leastLength 34 = .ok (.istore 5, 2) := by decide +kernel
theorem dX1_leastLength_36 : decode cX1_leastLength 36 = .ok (.iinc 6 1, 3) := by decide +kernel
theorem dX1_leastLength_39 : decode cX1_leastLength 39 = .ok (.goto (-25), 3) := by decide +kernel
theorem dX1_leastLength_42 : decode cX1_leastLength 42 = .ok (.iload 5, 2) := by decide +kernel
theorem dX1_leastLength_44 : decode cX1_leastLength 44 = .ok (.ireturn, 1) := by decide +kernel
theorem dX1_layArcs_0 : decode cX1_layArcs 0 = .ok (.aload_n 0, 1) := by decide +kernel
theorem dX1_layArcs_1 : decode cX1_layArcs 1 = .ok (.iload_n 1, 1) := by decide +kernel
theorem dX1_layArcs_2 : decode cX1_layArcs 2 = .ok (.invokestatic 46, 3) := by decide +kernel
theorem dX1_layArcs_5 : decode cX1_layArcs 5 = .ok (.putfield 50, 3) := by decide +kernel
theorem dX1_layArcs_8 : decode cX1_layArcs 8 = .ok (.aload_n 0, 1) := by decide +kernel
theorem dX1_layArcs_9 : decode cX1_layArcs 9 = .ok (.iload_n 2, 1) := by decide +kernel
theorem dX1_layArcs_10 : decode cX1_layArcs 10 = .ok (.invokestatic 54, 3) := by decide +kernel
theorem dX1_layArcs_13 : decode cX1_layArcs 13 = .ok (.putfield 57, 3) := by decide +kernel
theorem dX1_layArcs_16 : decode cX1_layArcs 16 = .ok (.aload_n 0, 1) := by decide +kernel
theorem dX1_layArcs_17 : decode cX1_layArcs 17 = .ok (.getfield 24, 3) := by decide +kernel
theorem dX1_layArcs_20 : decode cX1_layArcs 20 = .ok (.iconst 0, 1) := by decide +kernel
theorem dX1_layArcs_21 : decode cX1_layArcs 21 = .ok (.invokestatic 60, 3) := by decide +kernel
theorem dX1_layArcs_24 : decode cX1_layArcs 24 = .ok (.aload_n 0, 1) := by decide +kernel
theorem dX1_layArcs_25 : decode cX1_layArcs 25 = .ok (.getfield 21, 3) := by decide +kernel
theorem dX1_layArcs_28 : decode cX1_layArcs 28 = .ok (.iconst 0, 1) := by decide +kernel
theorem dX1_layArcs_29 : decode cX1_layArcs 29 = .ok (.invokestatic 60, 3) := by decide +kernel
theorem dX1_layArcs_32 : decode cX1_layArcs 32 = .ok (.iconst 0, 1) := by decide +kernel
theorem dX1_layArcs_33 : decode cX1_layArcs 33 = .ok (.istore 4, 2) := by decide +kernel
theorem dX1_layArcs_35 : decode cX1_layArcs 35 = .ok (.iload 4, 2) := by decide +kernel
theorem dX1_layArcs_37 : decode cX1_layArcs 37 = .ok (.aload_n 0, 1) := by decide +kernel
theorem dX1_layArcs_38 : decode cX1_layArcs 38 = .ok (.getfield 33, 3) := by decide +kernel
theorem dX1_layArcs_41 : decode cX1_layArcs 41 = .ok (.invokevirtual 66, 3) := by decide +kernel
theorem dX1_layArcs_44 : decode cX1_layArcs 44 = .ok (.if_icmp .ge 69, 3) := by decide +kernel
theorem dX1_layArcs_47 : decode cX1_layArcs 47 = .ok (.aload_n 0, 1) := by decide +kernel
theorem dX1_layArcs_48 : decode cX1_layArcs 48 = .ok (.getfield 33, 3) := by decide +kernel
theorem dX1_layArcs_51 : decode cX1_layArcs 51 = .ok (.iload 4, 2) := by decide +kernel
theorem dX1_layArcs_53 : decode cX1_layArcs 53 = .ok (.invokevirtual 71, 3) := by decide +kernel
theorem dX1_layArcs_56 : decode cX1_layArcs 56 = .ok (.istore 5, 2) := by decide +kernel
theorem dX1_layArcs_58 : decode cX1_layArcs 58 = .ok (.aload_n 0, 1) := by decide +kernel
theorem dX1_layArcs_59 : decode cX1_layArcs 59 = .ok (.iload 5, 2) := by decide +kernel
theorem dX1_layArcs_61 : decode cX1_layArcs 61 = .ok (.aload_n 0, 1) := by decide +kernel
theorem dX1_layArcs_62 : decode cX1_layArcs 62 = .ok (.getfield 33, 3) := by decide +kernel
theorem dX1_layArcs_65 : decode cX1_layArcs 65 = .ok (.iload 5, 2) := by decide +kernel
theorem dX1_layArcs_67 : decode cX1_layArcs 67 = .ok (.invokevirtual 74, 3) := by decide +kernel
theorem dX1_layArcs_70 : decode cX1_layArcs 70 = .ok (.invokestatic 46, 3) := by decide +kernel
theorem dX1_layArcs_73 : decode cX1_layArcs 73 = .ok (.aload_n 0, 1) := by decide +kernel
theorem dX1_layArcs_74 : decode cX1_layArcs 74 = .ok (.getfield 33, 3) := by decide +kernel
theorem dX1_layArcs_77 : decode cX1_layArcs 77 = .ok (.iload 5, 2) := by decide +kernel
theorem dX1_layArcs_79 : decode cX1_layArcs 79 = .ok (.invokevirtual 77, 3) := by decide +kernel
theorem dX1_layArcs_82 : decode cX1_layArcs 82 = .ok (.invokestatic 54, 3) := by decide +kernel
theorem dX1_layArcs_85 : decode cX1_layArcs 85 = .ok (.iconst 1, 1) := by decide +kernel
theorem dX1_layArcs_86 : decode cX1_layArcs 86 = .ok (.invokevirtual 80, 3) := by decide +kernel
theorem dX1_layArcs_89 : decode cX1_layArcs 89 = .ok (.aload_n 0, 1) := by decide +kernel
theorem dX1_layArcs_90 : decode cX1_layArcs 90 = .ok (.getfield 18, 3) := by decide +kernel
theorem dX1_layArcs_93 : decode cX1_layArcs 93 = .ok (.iload 5, 2) := by decide +kernel
theorem dX1_layArcs_95 : decode cX1_layArcs 95 = .ok (.aload_n 0, 1) := by decide +kernel
theorem dX1_layArcs_96 : decode cX1_layArcs 96 = .ok (.getfield 33, 3) := by decide +kernel
theorem dX1_layArcs_99 : decode cX1_layArcs 99 = .ok (.iload 5, 2) := by decide +kernel
theorem dX1_layArcs_101 : decode cX1_layArcs 101 = .ok (.invokevirtual 84, 3) := by decide +kernel
theorem dX1_layArcs_104 : decode cX1_layArcs 104 = .ok (.invokestatic 87, 3) := by decide +kernel
theorem dX1_layArcs_107 : decode cX1_layArcs 107 = .ok (.iinc 4 1, 3) := by decide +kernel
theorem dX1_layArcs_110 : decode cX1_layArcs 110 = .ok (.goto (-75), 3) := by decide +kernel
theorem dX1_layArcs_113 : decode cX1_layArcs 113 = .ok (.iconst 0, 1) := by decide +kernel
theorem dX1_layArcs_114 : decode cX1_layArcs 114 = .ok (.istore 4, 2) := by decide +kernel
theorem dX1_layArcs_116 : decode cX1_layArcs 116 = .ok (.iload 4, 2) := by decide +kernel
theorem dX1_layArcs_118 : decode cX1_layArcs 118 = .ok (.bipush 10, 2) := by decide +kernel
theorem dX1_layArcs_120 : decode cX1_layArcs 120 = .ok (.if_icmp .ge 58, 3) := by decide +kernel
theorem dX1_layArcs_123 : decode cX1_layArcs 123 = .ok (.iload 4, 2) := by decide +kernel
theorem dX1_layArcs_125 : decode cX1_layArcs 125 = .ok (.iload_n 1, 1) := by decide +kernel
theorem dX1_layArcs_126 : decode cX1_layArcs 126 = .ok (.if_icmp .eq 9, 3) := by decide +kernel
theorem dX1_layArcs_129 : decode cX1_layArcs 129 = .ok (.iload 4, 2) := by decide +kernel
theorem dX1_layArcs_131 : decode cX1_layArcs 131 = .ok (.iload_n 2, 1) := by decide +kernel
theorem dX1_layArcs_132 : decode cX1_layArcs 132 = .ok (.if_icmp .ne 7, 3) := by decide +kernel
theorem dX1_layArcs_135 : decode cX1_layArcs 135 = .ok (.iconst 0, 1) := by decide +kernel
theorem dX1_layArcs_136 : decode cX1_layArcs 136 = .ok (.goto 13, 3) := by decide +kernel
theorem dX1_layArcs_139 : decode cX1_layArcs 139 = .ok (.iload_n 3, 1) := by decide +kernel
theorem dX1_layArcs_140 : decode cX1_layArcs 140 = .ok (.ifCond .eq 7, 3) := by decide +kernel
theorem dX1_layArcs_143 : decode cX1_layArcs 143 = .ok (.iconst 1, 1) := by decide +kernel
theorem dX1_layArcs_144 : decode cX1_layArcs 144 = .ok (.goto 5, 3) := by decide +kernel
theorem dX1_layArcs_147 : decode cX1_layArcs 147 = .ok (.bipush 24, 2) := by decide +kernel
theorem dX1_layArcs_149 : decode cX1_layArcs 149 = .ok (.istore 5, 2) := by decide +kernel
theorem dX1_layArcs_151 : decode cX1_layArcs 151 = .ok (.aload_n 0, 1) := by decide +kernel
theorem dX1_layArcs_152 : decode cX1_layArcs 152 = .ok (.bipush 24, 2) := by decide +kernel
theorem dX1_layArcs_154 : decode cX1_layArcs 154 = .ok (.iload 4, 2) := by decide +kernel
theorem dX1_layArcs_156 : decode cX1_layArcs 156 = .ok (.iadd, 1) := by decide +kernel
theorem dX1_layArcs_157 : decode cX1_layArcs 157 = .ok (.iload 4, 2) := by decide +kernel
theorem dX1_layArcs_159 : decode cX1_layArcs 159 = .ok (.invokestatic 54, 3) := by decide +kernel
theorem dX1_layArcs_162 : decode cX1_layArcs 162 = .ok (.iload 4, 2) := by decide +kernel
theorem dX1_layArcs_164 : decode cX1_layArcs 164 = .ok (.invokestatic 46, 3) := by decide +kernel
theorem dX1_layArcs_167 : decode cX1_layArcs 167 = .ok (.iload 5, 2) := by decide +kernel
theorem dX1_layArcs_169 : decode cX1_layArcs 169 = .ok (.invokevirtual 80, 3) := by decide +kernel
theorem dX1_layArcs_172 : decode cX1_layArcs 172 = .ok (.iinc 4 1, 3) := by decide +kernel
theorem dX1_layArcs_175 : decode cX1_layArcs 175 = .ok (.goto (-59), 3) := by decide +kernel
theorem dX1_layArcs_178 : decode cX1_layArcs 178 = .ok (.return_, 1) := by decide +kernel
theorem dX1_layArc_0 : decode cX1_layArc 0 = .ok (.aload_n 0, 1) := by decide +kernel
theorem dX1_layArc_1 : decode cX1_layArc 1 = .ok (.getfield 11, 3) := by decide +kernel
theorem dX1_layArc_4 : decode cX1_layArc 4 = .ok (.iload_n 1, 1) := by decide +kernel
theorem dX1_layArc_5 : decode cX1_layArc 5 = .ok (.iload_n 2, 1) := by decide +kernel
theorem dX1_layArc_6 : decode cX1_layArc 6 = .ok (.invokestatic 87, 3) := by decide +kernel
theorem dX1_layArc_9 : decode cX1_layArc 9 = .ok (.aload_n 0, 1) := by decide +kernel
theorem dX1_layArc_10 : decode cX1_layArc 10 = .ok (.getfield 15, 3) := by decide +kernel
theorem dX1_layArc_13 : decode cX1_layArc 13 = .ok (.iload_n 1, 1) := by decide +kernel
theorem dX1_layArc_14 : decode cX1_layArc 14 = .ok (.iload_n 3, 1) := by decide +kernel
theorem dX1_layArc_15 : decode cX1_layArc 15 = .ok (.invokestatic 87, 3) := by decide +kernel
theorem dX1_layArc_18 : decode cX1_layArc 18 = .ok (.aload_n 0, 1) := by decide +kernel
theorem dX1_layArc_19 : decode cX1_layArc 19 = .ok (.getfield 21, 3) := by decide +kernel
theorem dX1_layArc_22 : decode cX1_layArc 22 = .ok (.iload_n 1, 1) := by decide +kernel
theorem dX1_layArc_23 : decode cX1_layArc 23 = .ok (.iload 4, 2) := by decide +kernel
theorem dX1_layArc_25 : decode cX1_layArc 25 = .ok (.invokestatic 87, 3) := by decide +kernel
theorem dX1_layArc_28 : decode cX1_layArc 28 = .ok (.return_, 1) := by decide +kernel
theorem dX1_pointBefore_0 : decode cX1_pointBefore 0 = .ok (.iconst 2, 1) := by decide +kernel
theorem dX1_pointBefore_1 : decode cX1_pointBefore 1 = .ok (.iload_n 0, 1) := by decide +kernel
theorem dX1_pointBefore_2 : decode cX1_pointBefore 2 = .ok (.imul, 1) := by decide +kernel
theorem dX1_pointBefore_3 : decode cX1_pointBefore 3 = .ok (.ireturn, 1) := by decide +kernel
theorem dX1_pointBehind_0 : decode cX1_pointBehind 0 = .ok (.iconst 2, 1) := by decide +kernel
theorem dX1_pointBehind_1 : decode cX1_pointBehind 1 = .ok (.iload_n 0, 1) := by decide +kernel
theorem dX1_pointBehind_2 : decode cX1_pointBehind 2 = .ok (.imul, 1) := by decide +kernel
theorem dX1_pointBehind_3 : decode cX1_pointBehind 3 = .ok (.iconst 1, 1) := by decide +kernel
theorem dX1_pointBehind_4 : decode cX1_pointBehind 4 = .ok (.iadd, 1) := by decide +kernel
theorem dX1_pointBehind_5 : decode cX1_pointBehind 5 = .ok (.ireturn, 1) := by decide +kernel
theorem dX1_addPath_0 : decode cX1_addPath 0 = .ok (.aload_n 0, 1) := by decide +kernel
theorem dX1_addPath_1 : decode cX1_addPath 1 = .ok (.getfield 27, 3) := by decide +kernel
theorem dX1_addPath_4 : decode cX1_addPath 4 = .ok (.ldc 45, 2) := by decide +kernel
theorem dX1_addPath_6 : decode cX1_addPath 6 = .ok (.invokestatic 60, 3) := by decide +kernel
theorem dX1_addPath_9 : decode cX1_addPath 9 = .ok (.aload_n 0, 1) := by decide +kernel
theorem dX1_addPath_10 : decode cX1_addPath 10 = .ok (.getfield 27, 3) := by decide +kernel
theorem dX1_addPath_13 : decode cX1_addPath 13 = .ok (.aload_n 0, 1) := by decide +kernel
theorem dX1_addPath_14 : decode cX1_addPath 14 = .ok (.getfield 50, 3) := by decide +kernel
theorem dX1_addPath_17 : decode cX1_addPath 17 = .ok (.iconst 0, 1) := by decide +kernel
theorem dX1_addPath_18 : decode cX1_addPath 18 = .ok (.invokestatic 87, 3) := by decide +kernel
theorem dX1_addPath_21 : decode cX1_addPath 21 = .ok (.iconst 1, 1) := by decide +kernel
theorem dX1_addPath_22 : decode cX1_addPath 22 = .ok (.istore_n 1, 1) := by decide +kernel
theorem dX1_addPath_23 : decode cX1_addPath 23 = .ok (.iconst 0, 1) := by decide +kernel
theorem dX1_addPath_24 : decode cX1_addPath 24 = .ok (.istore_n 2, 1) := by decide +kernel
theorem dX1_addPath_25 : decode cX1_addPath 25 = .ok (.iload_n 2, 1) := by decide +kernel
theorem dX1_addPath_26 : decode cX1_addPath 26 = .ok (.bipush 20, 2) := by decide +kernel
theorem dX1_addPath_28 : decode cX1_addPath 28 = .ok (.if_icmp .ge 18, 3) := by decide +kernel
theorem dX1_addPath_31 : decode cX1_addPath 31 = .ok (.iload_n 1, 1) := by decide +kernel
theorem dX1_addPath_32 : decode cX1_addPath 32 = .ok (.ifCond .eq 14, 3) := by decide +kernel
theorem dX1_addPath_35 : decode cX1_addPath 35 = .ok (.aload_n 0, 1) := by decide +kernel
theorem dX1_addPath_36 : decode cX1_addPath 36 = .ok (.invokevirtual 91, 3) := by decide +kernel
theorem dX1_addPath_39 : decode cX1_addPath 39 = .ok (.istore_n 1, 1) := by decide +kernel
theorem dX1_addPath_40 : decode cX1_addPath 40 = .ok (.iinc 2 1, 3) := by decide +kernel
theorem dX1_addPath_43 : decode cX1_addPath 43 = .ok (.goto (-18), 3) := by decide +kernel
theorem dX1_addPath_46 : decode cX1_addPath 46 = .ok (.aload_n 0, 1) := by decide +kernel
theorem dX1_addPath_47 : decode cX1_addPath 47 = .ok (.getfield 27, 3) := by decide +kernel
theorem dX1_addPath_50 : decode cX1_addPath 50 = .ok (.aload_n 0, 1) := by decide +kernel
theorem dX1_addPath_51 : decode cX1_addPath 51 = .ok (.getfield 57, 3) := by decide +kernel
theorem dX1_addPath_54 : decode cX1_addPath 54 = .ok (.invokestatic 95, 3) := by decide +kernel
theorem dX1_addPath_57 : decode cX1_addPath 57 = .ok (.istore_n 2, 1) := by decide +kernel
theorem dX1_addPath_58 : decode cX1_addPath 58 = .ok (.iload_n 2, 1) := by decide +kernel
theorem dX1_addPath_59 : decode cX1_addPath 59 = .ok (.ldc 45, 2) := by decide +kernel
theorem dX1_addPath_61 : decode cX1_addPath 61 = .ok (.if_icmp .ge 7, 3) := by decide +kernel
theorem dX1_addPath_64 : decode cX1_addPath 64 = .ok (.aload_n 0, 1) := by decide +kernel
theorem dX1_addPath_65 : decode cX1_addPath 65 = .ok (.invokevirtual 99, 3) := by decide +kernel
theorem dX1_addPath_68 : decode cX1_addPath 68 = .ok (.iload_n 2, 1) := by decide +kernel
theorem dX1_addPath_69 : decode cX1_addPath 69 = .ok (.ireturn, 1) := by decide +kernel
theorem dX1_cheapenAll_0 : decode cX1_cheapenAll 0 = .ok (.iconst 0, 1) := by decide +kernel
theorem dX1_cheapenAll_1 : decode cX1_cheapenAll 1 = .ok (.istore_n 1, 1) := by decide +kernel
theorem dX1_cheapenAll_2 : decode cX1_cheapenAll 2 = .ok (.iconst 0, 1) := by decide +kernel
theorem dX1_cheapenAll_3 : decode cX1_cheapenAll 3 = .ok (.istore_n 2, 1) := by decide +kernel
theorem dX1_cheapenAll_4 : decode cX1_cheapenAll 4 = .ok (.iload_n 2, 1) := by decide +kernel
theorem dX1_cheapenAll_5 : decode cX1_cheapenAll 5 = .ok (.bipush 34, 2) := by decide +kernel
theorem dX1_cheapenAll_7 : decode cX1_cheapenAll 7 = .ok (.if_icmp .ge 117, 3) := by decide +kernel
theorem dX1_cheapenAll_10 : decode cX1_cheapenAll 10 = .ok (.aload_n 0, 1) := by decide +kernel
theorem dX1_cheapenAll_11 : decode cX1_cheapenAll 11 = .ok (.getfield 11, 3) := by decide +kernel
theorem dX1_cheapenAll_14 : decode cX1_cheapenAll 14 = .ok (.iload_n 2, 1) := by decide +kernel
theorem dX1_cheapenAll_15 : decode cX1_cheapenAll 15 = .ok (.invokestatic 95, 3) := by decide +kernel
theorem dX1_cheapenAll_18 : decode cX1_cheapenAll 18 = .ok (.istore_n 3, 1) := by decide +kernel
theorem dX1_cheapenAll_19 : decode cX1_cheapenAll 19 = .ok (.aload_n 0, 1) := by decide +kernel
theorem dX1_cheapenAll_20 : decode cX1_cheapenAll 20 = .ok (.getfield 15, 3) := by decide +kernel
theorem dX1_cheapenAll_23 : decode cX1_cheapenAll 23 = .ok (.iload_n 2, 1) := by decide +kernel
theorem dX1_cheapenAll_24 : decode cX1_cheapenAll 24 = .ok (.invokestatic 95, 3) := by decide +kernel
theorem dX1_cheapenAll_27 : decode cX1_cheapenAll 27 = .ok (.istore 4, 2) := by decide +kernel
theorem dX1_cheapenAll_29 : decode cX1_cheapenAll 29 = .ok (.aload_n 0, 1) := by decide +kernel
theorem dX1_cheapenAll_30 : decode cX1_cheapenAll 30 = .ok (.getfield 24, 3) := by decide +kernel
theorem dX1_cheapenAll_33 : decode cX1_cheapenAll 33 = .ok (.iload_n 2, 1) := by decide +kernel
theorem dX1_cheapenAll_34 : decode cX1_cheapenAll 34 = .ok (.invokestatic 95, 3) := by decide +kernel
theorem dX1_cheapenAll_37 : decode cX1_cheapenAll 37 = .ok (.aload_n 0, 1) := by decide +kernel
theorem dX1_cheapenAll_38 : decode cX1_cheapenAll 38 = .ok (.getfield 21, 3) := by decide +kernel
theorem dX1_cheapenAll_41 : decode cX1_cheapenAll 41 = .ok (.iload_n 2, 1) := by decide +kernel
theorem dX1_cheapenAll_42 : decode cX1_cheapenAll 42 = .ok (.invokestatic 95, 3) := by decide +kernel
theorem dX1_cheapenAll_45 : decode cX1_cheapenAll 45 = .ok (.if_icmp .ge 32, 3) := by decide +kernel
theorem dX1_cheapenAll_48 : decode cX1_cheapenAll 48 = .ok (.aload_n 0, 1) := by decide +kernel
theorem dX1_cheapenAll_49 : decode cX1_cheapenAll 49 = .ok (.iload 4, 2) := by decide +kernel
theorem dX1_cheapenAll_51 : decode cX1_cheapenAll 51 = .ok (.iload_n 3, 1) := by decide +kernel
theorem dX1_cheapenAll_52 : decode cX1_cheapenAll 52 = .ok (.aload_n 0, 1) := by decide +kernel
theorem dX1_cheapenAll_53 : decode cX1_cheapenAll 53 = .ok (.getfield 18, 3) := by decide +kernel
theorem dX1_cheapenAll_56 : decode cX1_cheapenAll 56 = .ok (.iload_n 2, 1) := by decide +kernel
theorem dX1_cheapenAll_57 : decode cX1_cheapenAll 57 = .ok (.invokestatic 95, 3) := by decide +kernel
theorem dX1_cheapenAll_60 : decode cX1_cheapenAll 60 = .ok (.iload_n 2, 1) := by decide +kernel
theorem dX1_cheapenAll_61 : decode cX1_cheapenAll 61 = .ok (.invokevirtual 102, 3) := by decide +kernel
theorem dX1_cheapenAll_64 : decode cX1_cheapenAll 64 = .ok (.ifCond .ne 7, 3) := by decide +kernel
theorem dX1_cheapenAll_67 : decode cX1_cheapenAll 67 = .ok (.iload_n 1, 1) := by decide +kernel
theorem dX1_cheapenAll_68 : decode cX1_cheapenAll 68 = .ok (.ifCond .eq 7, 3) := by decide +kernel
theorem dX1_cheapenAll_71 : decode cX1_cheapenAll 71 = .ok (.iconst 1, 1) := by decide +kernel
theorem dX1_cheapenAll_72 : decode cX1_cheapenAll 72 = .ok (.goto 4, 3) := by decide +kernel
theorem dX1_cheapenAll_75 : decode cX1_cheapenAll 75 = .ok (.iconst 0, 1) := by decide +kernel
theorem dX1_cheapenAll_76 : decode cX1_cheapenAll 76 = .ok (.istore_n 1, 1) := by decide +kernel
theorem dX1_cheapenAll_77 : decode cX1_cheapenAll 77 = .ok (.aload_n 0, 1) := by decide +kernel
theorem dX1_cheapenAll_78 : decode cX1_cheapenAll 78 = .ok (.getfield 24, 3) := by decide +kernel
theorem dX1_cheapenAll_81 : decode cX1_cheapenAll 81 = .ok (.iload_n 2, 1) := by decide +kernel
theorem dX1_cheapenAll_82 : decode cX1_cheapenAll 82 = .ok (.invokestatic 95, 3) := by decide +kernel
theorem dX1_cheapenAll_85 : decode cX1_cheapenAll 85 = .ok (.ifCond .le 33, 3) := by decide +kernel
theorem dX1_cheapenAll_88 : decode cX1_cheapenAll 88 = .ok (.aload_n 0, 1) := by decide +kernel
theorem dX1_cheapenAll_89 : decode cX1_cheapenAll 89 = .ok (.iload_n 3, 1) := by decide +kernel
theorem dX1_cheapenAll_90 : decode cX1_cheapenAll 90 = .ok (.iload 4, 2) := by decide +kernel
theorem dX1_cheapenAll_92 : decode cX1_cheapenAll 92 = .ok (.aload_n 0, 1) := by decide +kernel
theorem dX1_cheapenAll_93 : decode cX1_cheapenAll 93 = .ok (.getfield 18, 3) := by decide +kernel
theorem dX1_cheapenAll_96 : decode cX1_cheapenAll 96 = .ok (.iload_n 2, 1) := by decide +kernel
theorem dX1_cheapenAll_97 : decode cX1_cheapenAll 97 = .ok (.invokestatic 95, 3) := by decide +kernel
theorem dX1_cheapenAll_100 : decode cX1_cheapenAll 100 = .ok (.ineg, 1) := by decide +kernel
theorem dX1_cheapenAll_101 : decode cX1_cheapenAll 101 = .ok (.iload_n 2, 1) := by decide +kernel
theorem dX1_cheapenAll_102 : decode cX1_cheapenAll 102 = .ok (.invokevirtual 102, 3) := by decide +kernel
theorem dX1_cheapenAll_105 : decode cX1_cheapenAll 105 = .ok (.ifCond .ne 7, 3) := by decide +kernel
theorem dX1_cheapenAll_108 : decode cX1_cheapenAll 108 = .ok (.iload_n 1, 1) := by decide +kernel
theorem dX1_cheapenAll_109 : decode cX1_cheapenAll 109 = .ok (.ifCond .eq 7, 3) := by decide +kernel
theorem dX1_cheapenAll_112 : decode cX1_cheapenAll 112 = .ok (.iconst 1, 1) := by decide +kernel
theorem dX1_cheapenAll_113 : decode cX1_cheapenAll 113 = .ok (.goto 4, 3) := by decide +kernel
theorem dX1_cheapenAll_116 : decode cX1_cheapenAll 116 = .ok (.iconst 0, 1) := by decide +kernel
theorem dX1_cheapenAll_117 : decode cX1_cheapenAll 117 = .ok (.istore_n 1, 1) := by decide +kernel
theorem dX1_cheapenAll_118 : decode cX1_cheapenAll 118 = .ok (.iinc 2 1, 3) := by decide +kernel
theorem dX1_cheapenAll_121 : decode cX1_cheapenAll 121 = .ok (.goto (-117), 3) := by decide +kernel
theorem dX1_cheapenAll_124 : decode cX1_cheapenAll 124 = .ok (.iload_n 1, 1) := by decide +kernel
theorem dX1_cheapenAll_125 : decode cX1_cheapenAll 125 = .ok (.ireturn, 1) := by decide +kernel
theorem dX1_reach_0 : decode cX1_reach 0 = .ok (.aload_n 0, 1) := by decide +kernel
theorem dX1_reach_1 : decode cX1_reach 1 = .ok (.getfield 27, 3) := by decide +kernel
theorem dX1_reach_4 : decode cX1_reach 4 = .ok (.iload_n 2, 1) := by decide +kernel
theorem dX1_reach_5 : decode cX1_reach 5 = .ok (.invokestatic 95, 3) := by decide +kernel
theorem dX1_reach_8 : decode cX1_reach 8 = .ok (.iload_n 3, 1) := by decide +kernel
theorem dX1_reach_9 : decode cX1_reach 9 = .ok (.iadd, 1) := by decide +kernel
theorem dX1_reach_10 : decode cX1_reach 10 = .ok (.istore 5, 2) := by decide +kernel
theorem dX1_reach_12 : decode cX1_reach 12 = .ok (.aload_n 0, 1) := by decide +kernel
theorem dX1_reach_13 : decode cX1_reach 13 = .ok (.getfield 27, 3) := by decide +kernel
theorem dX1_reach_16 : decode cX1_reach 16 = .ok (.iload_n 2, 1) := by decide +kernel
theorem dX1_reach_17 : decode cX1_reach 17 = .ok (.invokestatic 95, 3) := by decide +kernel
theorem dX1_reach_20 : decode cX1_reach 20 = .ok (.ldc 45, 2) := by decide +kernel
theorem dX1_reach_22 : decode cX1_reach 22 = .ok (.if_icmp .ge 16, 3) := by decide +kernel
theorem dX1_reach_25 : decode cX1_reach 25 = .ok (.iload 5, 2) := by decide +kernel
theorem dX1_reach_27 : decode cX1_reach 27 = .ok (.aload_n 0, 1) := by decide +kernel
theorem dX1_reach_28 : decode cX1_reach 28 = .ok (.getfield 27, 3) := by decide +kernel
theorem dX1_reach_31 : decode cX1_reach 31 = .ok (.iload_n 1, 1) := by decide +kernel
theorem dX1_reach_32 : decode cX1_reach 32 = .ok (.invokestatic 95, 3) := by decide +kernel
theorem dX1_reach_35 : decode cX1_reach 35 = .ok (.if_icmp .lt 5, 3) := by decide +kernel
theorem dX1_reach_38 : decode cX1_reach 38 = .ok (.iconst 0, 1) := by decide +kernel
theorem dX1_reach_39 : decode cX1_reach 39 = .ok (.ireturn, 1) := by decide +kernel
theorem dX1_reach_40 : decode cX1_reach 40 = .ok (.aload_n 0, 1) := by decide +kernel
theorem dX1_reach_41 : decode cX1_reach 41 = .ok (.getfield 27, 3) := by decide +kernel
theorem dX1_reach_44 : decode cX1_reach 44 = .ok (.iload_n 1, 1) := by decide +kernel
theorem dX1_reach_45 : decode cX1_reach 45 = .ok (.iload 5, 2) := by decide +kernel
theorem dX1_reach_47 : decode cX1_reach 47 = .ok (.invokestatic 87, 3) := by decide +kernel
theorem dX1_reach_50 : decode cX1_reach 50 = .ok (.aload_n 0, 1) := by decide +kernel
theorem dX1_reach_51 : decode cX1_reach 51 = .ok (.getfield 30, 3) := by decide +kernel
theorem dX1_reach_54 : decode cX1_reach 54 = .ok (.iload_n 1, 1) := by decide +kernel
theorem dX1_reach_55 : decode cX1_reach 55 = .ok (.iload 4, 2) := by decide +kernel
theorem dX1_reach_57 : decode cX1_reach 57 = .ok (.invokestatic 87, 3) := by decide +kernel
theorem dX1_reach_60 : decode cX1_reach 60 = .ok (.iconst 1, 1) := by decide +kernel
theorem dX1_reach_61 : decode cX1_reach 61 = .ok (.ireturn, 1) := by decide +kernel
theorem dX1_send_0 : decode cX1_send 0 = .ok (.aload_n 0, 1) := by decide +kernel
theorem dX1_send_1 : decode cX1_send 1 = .ok (.getfield 57, 3) := by decide +kernel
theorem dX1_send_4 : decode cX1_send 4 = .ok (.istore_n 1, 1) := by decide +kernel
theorem dX1_send_5 : decode cX1_send 5 = .ok (.iconst 0, 1) := by decide +kernel
theorem dX1_send_6 : decode cX1_send 6 = .ok (.istore_n 2, 1) := by decide +kernel
theorem dX1_send_7 : decode cX1_send 7 = .ok (.iload_n 2, 1) := by decide +kernel
theorem dX1_send_8 : decode cX1_send 8 = .ok (.bipush 20, 2) := by decide +kernel
theorem dX1_send_10 : decode cX1_send 10 = .ok (.if_icmp .ge 97, 3) := by decide +kernel
theorem dX1_send_13 : decode cX1_send 13 = .ok (.iload_n 1, 1) := by decide +kernel
theorem dX1_send_14 : decode cX1_send 14 = .ok (.aload_n 0, 1) := by decide +kernel
theorem dX1_send_15 : decode cX1_send 15 = .ok (.getfield 50, 3) := by decide +kernel
theorem dX1_send_18 : decode cX1_send 18 = .ok (.if_icmp .eq 89, 3) := by decide +kernel
theorem dX1_send_21 : decode cX1_send 21 = .ok (.aload_n 0, 1) := by decide +kernel
theorem dX1_send_22 : decode cX1_send 22 = .ok (.getfield 30, 3) := by decide +kernel
theorem dX1_send_25 : decode cX1_send 25 = .ok (.iload_n 1, 1) := by decide +kernel
theorem dX1_send_26 : decode cX1_send 26 = .ok (.invokestatic 95, 3) := by decide +kernel
theorem dX1_send_29 : decode cX1_send 29 = .ok (.istore_n 3, 1) := by decide +kernel
theorem dX1_send_30 : decode cX1_send 30 = .ok (.aload_n 0, 1) := by decide +kernel
theorem dX1_send_31 : decode cX1_send 31 = .ok (.getfield 15, 3) := by decide +kernel
theorem dX1_send_34 : decode cX1_send 34 = .ok (.iload_n 3, 1) := by decide +kernel
theorem dX1_send_35 : decode cX1_send 35 = .ok (.invokestatic 95, 3) := by decide +kernel
theorem dX1_send_38 : decode cX1_send 38 = .ok (.iload_n 1, 1) := by decide +kernel
theorem dX1_send_39 : decode cX1_send 39 = .ok (.if_icmp .ne 7, 3) := by decide +kernel
theorem dX1_send_42 : decode cX1_send 42 = .ok (.iconst 1, 1) := by decide +kernel
theorem dX1_send_43 : decode cX1_send 43 = .ok (.goto 4, 3) := by decide +kernel
theorem dX1_send_46 : decode cX1_send 46 = .ok (.iconst 0, 1) := by decide +kernel
theorem dX1_send_47 : decode cX1_send 47 = .ok (.istore 4, 2) := by decide +kernel
theorem dX1_send_49 : decode cX1_send 49 = .ok (.aload_n 0, 1) := by decide +kernel
theorem dX1_send_50 : decode cX1_send 50 = .ok (.getfield 24, 3) := by decide +kernel
theorem dX1_send_53 : decode cX1_send 53 = .ok (.iload_n 3, 1) := by decide +kernel
theorem dX1_send_54 : decode cX1_send 54 = .ok (.aload_n 0, 1) := by decide +kernel
theorem dX1_send_55 : decode cX1_send 55 = .ok (.getfield 24, 3) := by decide +kernel
theorem dX1_send_58 : decode cX1_send 58 = .ok (.iload_n 3, 1) := by decide +kernel
theorem dX1_send_59 : decode cX1_send 59 = .ok (.invokestatic 95, 3) := by decide +kernel
theorem dX1_send_62 : decode cX1_send 62 = .ok (.iload 4, 2) := by decide +kernel
theorem dX1_send_64 : decode cX1_send 64 = .ok (.ifCond .eq 7, 3) := by decide +kernel
theorem dX1_send_67 : decode cX1_send 67 = .ok (.iconst 1, 1) := by decide +kernel
theorem dX1_send_68 : decode cX1_send 68 = .ok (.goto 4, 3) := by decide +kernel
theorem dX1_send_71 : decode cX1_send 71 = .ok (.iconst (-1), 1) := by decide +kernel
theorem dX1_send_72 : decode cX1_send 72 = .ok (.iadd, 1) := by decide +kernel
theorem dX1_send_73 : decode cX1_send 73 = .ok (.invokestatic 87, 3) := by decide +kernel
theorem dX1_send_76 : decode cX1_send 76 = .ok (.iload 4, 2) := by decide +kernel
theorem dX1_send_78 : decode cX1_send 78 = .ok (.ifCond .eq 14, 3) := by decide +kernel
theorem dX1_send_81 : decode cX1_send 81 = .ok (.aload_n 0, 1) := by decide +kernel
theorem dX1_send_82 : decode cX1_send 82 = .ok (.getfield 11, 3) := by decide +kernel
theorem dX1_send_85 : decode cX1_send 85 = .ok (.iload_n 3, 1) := by decide +kernel
theorem dX1_send_86 : decode cX1_send 86 = .ok (.invokestatic 95, 3) := by decide +kernel
theorem dX1_send_89 : decode cX1_send 89 = .ok (.goto 11, 3) := by decide +kernel
theorem dX1_send_92 : decode cX1_send 92 = .ok (.aload_n 0, 1) := by decide +kernel
theorem dX1_send_93 : decode cX1_send 93 = .ok (.getfield 15, 3) := by decide +kernel
theorem dX1_send_96 : decode cX1_send 96 = .ok (.iload_n 3, 1) := by decide +kernel
theorem dX1_send_97 : decode cX1_send 97 = .ok (.invokestatic 95, 3) := by decide +kernel
theorem dX1_send_100 : decode cX1_send 100 = .ok (.istore_n 1, 1) := by decide +kernel
theorem dX1_send_101 : decode cX1_send 101 = .ok (.iinc 2 1, 3) := by decide +kernel
theorem dX1_send_104 : decode cX1_send 104 = .ok (.goto (-97), 3) := by decide +kernel
theorem dX1_send_107 : decode cX1_send 107 = .ok (.return_, 1) := by decide +kernel
theorem dX2_init_0 : decode cX2_init 0 = .ok (.aload_n 0, 1) := by decide +kernel
theorem dX2_init_1 : decode cX2_init 1 = .ok (.invokespecial 3, 3) := by decide +kernel
theorem dX2_init_4 : decode cX2_init 4 = .ok (.aload_n 0, 1) := by decide +kernel
theorem dX2_init_5 : decode cX2_init 5 = .ok (.bipush 10, 2) := by decide +kernel
theorem dX2_init_7 : decode cX2_init 7 = .ok (.newarray .int, 2) := by decide +kernel
theorem dX2_init_9 : decode cX2_init 9 = .ok (.putfield 9, 3) := by decide +kernel
theorem dX2_init_12 : decode cX2_init 12 = .ok (.aload_n 0, 1) := by decide +kernel
theorem dX2_init_13 : decode cX2_init 13 = .ok (.aload_n 1, 1) := by decide +kernel
theorem dX2_init_14 : decode cX2_init 14 = .ok (.putfield 15, 3) := by decide +kernel
theorem dX2_init_17 : decode cX2_init 17 = .ok (.return_, 1) := by decide +kernel
theorem dX2_measureTo_0 : decode cX2_measureTo 0 = .ok (.aload_n 0, 1) := by decide +kernel
theorem dX2_measureTo_1 : decode cX2_measureTo 1 = .ok (.getfield 9, 3) := by decide +kernel
theorem dX2_measureTo_4 : decode cX2_measureTo 4 = .ok (.ldc 19, 2) := by decide +kernel
theorem dX2_measureTo_6 : decode cX2_measureTo 6 = .ok (.invokestatic 20, 3) := by decide +kernel
theorem dX2_measureTo_9 : decode cX2_measureTo 9 = .ok (.aload_n 0, 1) := by decide +kernel
theorem dX2_measureTo_10 : decode cX2_measureTo 10 = .ok (.getfield 9, 3) := by decide +kernel
theorem dX2_measureTo_13 : decode cX2_measureTo 13 = .ok (.iload_n 1, 1) := by decide +kernel
theorem dX2_measureTo_14 : decode cX2_measureTo 14 = .ok (.iconst 0, 1) := by decide +kernel
theorem dX2_measureTo_15 : decode cX2_measureTo 15 = .ok (.invokestatic 26, 3) := by decide +kernel
theorem dX2_measureTo_18 : decode cX2_measureTo 18 = .ok (.iconst 1, 1) := by decide +kernel
theorem dX2_measureTo_19 : decode cX2_measureTo 19 = .ok (.istore_n 2, 1) := by decide +kernel
theorem dX2_measureTo_20 : decode cX2_measureTo 20 = .ok (.iconst 0, 1) := by decide +kernel
theorem dX2_measureTo_21 : decode cX2_measureTo 21 = .ok (.istore_n 3, 1) := by decide +kernel
theorem dX2_measureTo_22 : decode cX2_measureTo 22 = .ok (.iload_n 3, 1) := by decide +kernel
theorem dX2_measureTo_23 : decode cX2_measureTo 23 = .ok (.bipush 10, 2) := by decide +kernel
theorem dX2_measureTo_25 : decode cX2_measureTo 25 = .ok (.if_icmp .ge 18, 3) := by decide +kernel
theorem dX2_measureTo_28 : decode cX2_measureTo 28 = .ok (.iload_n 2, 1) := by decide +kernel
theorem dX2_measureTo_29 : decode cX2_measureTo 29 = .ok (.ifCond .eq 14, 3) := by decide +kernel
theorem dX2_measureTo_32 : decode cX2_measureTo 32 = .ok (.aload_n 0, 1) := by decide +kernel
theorem dX2_measureTo_33 : decode cX2_measureTo 33 = .ok (.invokevirtual 30, 3) := by decide +kernel
theorem dX2_measureTo_36 : decode cX2_measureTo 36 = .ok (.istore_n 2, 1) := by decide +kernel
theorem dX2_measureTo_37 : decode cX2_measureTo 37 = .ok (.iinc 3 1, 3) := by decide +kernel
theorem dX2_measureTo_40 : decode cX2_measureTo 40 = .ok (.goto (-18), 3) := by decide +kernel
theorem dX2_measureTo_43 : decode cX2_measureTo 43 = .ok (.return_, 1) := by decide +kernel
theorem dX2_shortenAll_0 : decode cX2_shortenAll 0 = .ok (.iconst 0, 1) := by decide +kernel
theorem dX2_shortenAll_1 : decode cX2_shortenAll 1 = .ok (.istore_n 1, 1) := by decide +kernel
theorem dX2_shortenAll_2 : decode cX2_shortenAll 2 = .ok (.iconst 0, 1) := by decide +kernel
theorem dX2_shortenAll_3 : decode cX2_shortenAll 3 = .ok (.istore_n 2, 1) := by decide +kernel
theorem dX2_shortenAll_4 : decode cX2_shortenAll 4 = .ok (.iload_n 2, 1) := by decide +kernel
theorem dX2_shortenAll_5 : decode cX2_shortenAll 5 = .ok (.aload_n 0, 1) := by decide +kernel
theorem dX2_shortenAll_6 : decode cX2_shortenAll 6 = .ok (.getfield 15, 3) := by decide +kernel
theorem dX2_shortenAll_9 : decode cX2_shortenAll 9 = .ok (.invokevirtual 34, 3) := by decide +kernel
theorem dX2_shortenAll_12 : decode cX2_shortenAll 12 = .ok (.if_icmp .ge 77, 3) := by decide +kernel
theorem dX2_shortenAll_15 : decode cX2_shortenAll 15 = .ok (.aload_n 0, 1) := by decide +kernel
theorem dX2_shortenAll_16 : decode cX2_shortenAll 16 = .ok (.getfield 15, 3) := by decide +kernel
theorem dX2_shortenAll_19 : decode cX2_shortenAll 19 = .ok (.iload_n 2, 1) := by decide +kernel
theorem dX2_shortenAll_20 : decode cX2_shortenAll 20 = .ok (.invokevirtual 40, 3) := by decide +kernel
theorem dX2_shortenAll_23 : decode cX2_shortenAll 23 = .ok (.istore_n 3, 1) := by decide +kernel
theorem dX2_shortenAll_24 : decode cX2_shortenAll 24 = .ok (.aload_n 0, 1) := by decide +kernel
theorem dX2_shortenAll_25 : decode cX2_shortenAll 25 = .ok (.getfield 15, 3) := by decide +kernel
theorem dX2_shortenAll_28 : decode cX2_shortenAll 28 = .ok (.iload_n 3, 1) := by decide +kernel
theorem dX2_shortenAll_29 : decode cX2_shortenAll 29 = .ok (.invokevirtual 44, 3) := by decide +kernel
theorem dX2_shortenAll_32 : decode cX2_shortenAll 32 = .ok (.aload_n 0, 1) := by decide +kernel
theorem dX2_shortenAll_33 : decode cX2_shortenAll 33 = .ok (.aload_n 0, 1) := by decide +kernel
theorem dX2_shortenAll_34 : decode cX2_shortenAll 34 = .ok (.getfield 15, 3) := by decide +kernel
theorem dX2_shortenAll_37 : decode cX2_shortenAll 37 = .ok (.iload_n 3, 1) := by decide +kernel
theorem dX2_shortenAll_38 : decode cX2_shortenAll 38 = .ok (.invokevirtual 47, 3) := by decide +kernel
theorem dX2_shortenAll_41 : decode cX2_shortenAll 41 = .ok (.invokevirtual 50, 3) := by decide +kernel
theorem dX2_shortenAll_44 : decode cX2_shortenAll 44 = .ok (.iadd, 1) := by decide +kernel
theorem dX2_shortenAll_45 : decode cX2_shortenAll 45 = .ok (.istore 4, 2) := by decide +kernel
theorem dX2_shortenAll_47 : decode cX2_shortenAll 47 = .ok (.iload 4, 2) := by decide +kernel
theorem dX2_shortenAll_49 : decode cX2_shortenAll 49 = .ok (.aload_n 0, 1) := by decide +kernel
theorem dX2_shortenAll_50 : decode cX2_shortenAll 50 = .ok (.aload_n 0, 1) := by decide +kernel
theorem dX2_shortenAll_51 : decode cX2_shortenAll 51 = .ok (.getfield 15, 3) := by decide +kernel
theorem dX2_shortenAll_54 : decode cX2_shortenAll 54 = .ok (.iload_n 3, 1) := by decide +kernel
theorem dX2_shortenAll_55 : decode cX2_shortenAll 55 = .ok (.invokevirtual 53, 3) := by decide +kernel
theorem dX2_shortenAll_58 : decode cX2_shortenAll 58 = .ok (.invokevirtual 50, 3) := by decide +kernel
theorem dX2_shortenAll_61 : decode cX2_shortenAll 61 = .ok (.if_icmp .ge 22, 3) := by decide +kernel
theorem dX2_shortenAll_64 : decode cX2_shortenAll 64 = .ok (.aload_n 0, 1) := by decide +kernel
theorem dX2_shortenAll_65 : decode cX2_shortenAll 65 = .ok (.getfield 9, 3) := by decide +kernel
theorem dX2_shortenAll_68 : decode cX2_shortenAll 68 = .ok (.aload_n 0, 1) := by decide +kernel
theorem dX2_shortenAll_69 : decode cX2_shortenAll 69 = .ok (.getfield 15, 3) := by decide +kernel
theorem dX2_shortenAll_72 : decode cX2_shortenAll 72 = .ok (.iload_n 3, 1) := by decide +kernel
theorem dX2_shortenAll_73 : decode cX2_shortenAll 73 = .ok (.invokevirtual 53, 3) := by decide +kernel
theorem dX2_shortenAll_76 : decode cX2_shortenAll 76 = .ok (.iload 4, 2) := by decide +kernel
theorem dX2_shortenAll_78 : decode cX2_shortenAll 78 = .ok (.invokestatic 26, 3) := by decide +kernel
theorem dX2_shortenAll_81 : decode cX2_shortenAll 81 = .ok (.iconst 1, 1) := by decide +kernel
theorem dX2_shortenAll_82 : decode cX2_shortenAll 82 = .ok (.istore_n 1, 1) := by decide +kernel
theorem dX2_shortenAll_83 : decode cX2_shortenAll 83 = .ok (.iinc 2 1, 3) := by decide +kernel
theorem dX2_shortenAll_86 : decode cX2_shortenAll 86 = .ok (.goto (-82), 3) := by decide +kernel
theorem dX2_shortenAll_89 : decode cX2_shortenAll 89 = .ok (.iload_n 1, 1) := by decide +kernel
theorem dX2_shortenAll_90 : decode cX2_shortenAll 90 = .ok (.ireturn, 1) := by decide +kernel
theorem dX2_ofNode_0 : decode cX2_ofNode 0 = .ok (.aload_n 0, 1) := by decide +kernel
theorem dX2_ofNode_1 : decode cX2_ofNode 1 = .ok (.getfield 9, 3) := by decide +kernel
theorem dX2_ofNode_4 : decode cX2_ofNode 4 = .ok (.iload_n 1, 1) := by decide +kernel
theorem dX2_ofNode_5 : decode cX2_ofNode 5 = .ok (.invokestatic 56, 3) := by decide +kernel
theorem dX2_ofNode_8 : decode cX2_ofNode 8 = .ok (.ireturn, 1) := by decide +kernel
theorem dX3_init_0 : decode cX3_init 0 = .ok (.aload_n 0, 1) := by decide +kernel
theorem dX3_init_1 : decode cX3_init 1 = .ok (.invokespecial 3, 3) := by decide +kernel
theorem dX3_init_4 : decode cX3_init 4 = .ok (.aload_n 0, 1) := by decide +kernel
theorem dX3_init_5 : decode cX3_init 5 = .ok (.bipush 24, 2) := by decide +kernel
theorem dX3_init_7 : decode cX3_init 7 = .ok (.newarray .int, 2) := by decide +kernel
theorem dX3_init_9 : decode cX3_init 9 = .ok (.putfield 9, 3) := by decide +kernel
theorem dX3_init_12 : decode cX3_init 12 = .ok (.aload_n 0, 1) := by decide +kernel
theorem dX3_init_13 : decode cX3_init 13 = .ok (.bipush 24, 2) := by decide +kernel
theorem dX3_init_15 : decode cX3_init 15 = .ok (.newarray .int, 2) := by decide +kernel
theorem dX3_init_17 : decode cX3_init 17 = .ok (.putfield 15, 3) := by decide +kernel
theorem dX3_init_20 : decode cX3_init 20 = .ok (.aload_n 0, 1) := by decide +kernel
theorem dX3_init_21 : decode cX3_init 21 = .ok (.bipush 24, 2) := by decide +kernel
theorem dX3_init_23 : decode cX3_init 23 = .ok (.newarray .int, 2) := by decide +kernel
theorem dX3_init_25 : decode cX3_init 25 = .ok (.putfield 18, 3) := by decide +kernel
theorem dX3_init_28 : decode cX3_init 28 = .ok (.aload_n 0, 1) := by decide +kernel
theorem dX3_init_29 : decode cX3_init 29 = .ok (.bipush 24, 2) := by decide +kernel
theorem dX3_init_31 : decode cX3_init 31 = .ok (.newarray .int, 2) := by decide +kernel
theorem dX3_init_33 : decode cX3_init 33 = .ok (.putfield 21, 3) := by decide +kernel
theorem dX3_init_36 : decode cX3_init 36 = .ok (.aload_n 0, 1) := by decide +kernel
theorem dX3_init_37 : decode cX3_init 37 = .ok (.bipush 24, 2) := by decide +kernel
theorem dX3_init_39 : decode cX3_init 39 = .ok (.newarray .int, 2) := by decide +kernel
theorem dX3_init_41 : decode cX3_init 41 = .ok (.putfield 24, 3) := by decide +kernel
theorem dX3_init_44 : decode cX3_init 44 = .ok (.aload_n 0, 1) := by decide +kernel
theorem dX3_init_45 : decode cX3_init 45 = .ok (.bipush 11, 2) := by decide +kernel
theorem dX3_init_47 : decode cX3_init 47 = .ok (.newarray .int, 2) := by decide +kernel
theorem dX3_init_49 : decode cX3_init 49 = .ok (.putfield 27, 3) := by decide +kernel
theorem dX3_init_52 : decode cX3_init 52 = .ok (.aload_n 0, 1) := by decide +kernel
theorem dX3_init_53 : decode cX3_init 53 = .ok (.iconst 2, 1) := by decide +kernel
theorem dX3_init_54 : decode cX3_init 54 = .ok (.putfield 30, 3) := by decide +kernel
theorem dX3_init_57 : decode cX3_init 57 = .ok (.return_, 1) := by decide +kernel
theorem dX3_clear_0 : decode cX3_clear 0 = .ok (.aload_n 0, 1) := by decide +kernel
theorem dX3_clear_1 : decode cX3_clear 1 = .ok (.iload_n 1, 1) := by decide +kernel
theorem dX3_clear_2 : decode cX3_clear 2 = .ok (.putfield 30, 3) := by decide +kernel
theorem dX3_clear_5 : decode cX3_clear 5 = .ok (.aload_n 0, 1) := by decide +kernel
theorem dX3_clear_6 : decode cX3_clear 6 = .ok (.iconst 0, 1) := by decide +kernel
theorem dX3_clear_7 : decode cX3_clear 7 = .ok (.putfield 34, 3) := by decide +kernel
theorem dX3_clear_10 : decode cX3_clear 10 = .ok (.aload_n 0, 1) := by decide +kernel
theorem dX3_clear_11 : decode cX3_clear 11 = .ok (.iconst 0, 1) := by decide +kernel
theorem dX3_clear_12 : decode cX3_clear 12 = .ok (.putfield 37, 3) := by decide +kernel
theorem dX3_clear_15 : decode cX3_clear 15 = .ok (.aload_n 0, 1) := by decide +kernel
theorem dX3_clear_16 : decode cX3_clear 16 = .ok (.iconst 0, 1) := by decide +kernel
theorem dX3_clear_17 : decode cX3_clear 17 = .ok (.putfield 40, 3) := by decide +kernel
theorem dX3_clear_20 : decode cX3_clear 20 = .ok (.aload_n 0, 1) := by decide +kernel
theorem dX3_clear_21 : decode cX3_clear 21 = .ok (.getfield 21, 3) := by decide +kernel
theorem dX3_clear_24 : decode cX3_clear 24 = .ok (.iconst 0, 1) := by decide +kernel
theorem dX3_clear_25 : decode cX3_clear 25 = .ok (.invokestatic 43, 3) := by decide +kernel
theorem dX3_clear_28 : decode cX3_clear 28 = .ok (.aload_n 0, 1) := by decide +kernel
theorem dX3_clear_29 : decode cX3_clear 29 = .ok (.invokevirtual 49, 3) := by decide +kernel
theorem dX3_clear_32 : decode cX3_clear 32 = .ok (.return_, 1) := by decide +kernel
theorem dX3_append_0 : decode cX3_append 0 = .ok (.aload_n 0, 1) := by decide +kernel
theorem dX3_append_1 : decode cX3_append 1 = .ok (.getfield 34, 3) := by decide +kernel
theorem dX3_append_4 : decode cX3_append 4 = .ok (.istore 4, 2) := by decide +kernel
theorem dX3_append_6 : decode cX3_append 6 = .ok (.aload_n 0, 1) := by decide +kernel
theorem dX3_append_7 : decode cX3_append 7 = .ok (.getfield 9, 3) := by decide +kernel
theorem dX3_append_10 : decode cX3_append 10 = .ok (.iload 4, 2) := by decide +kernel
theorem dX3_append_12 : decode cX3_append 12 = .ok (.iload_n 1, 1) := by decide +kernel
theorem dX3_append_13 : decode cX3_append 13 = .ok (.invokestatic 52, 3) := by decide +kernel
theorem dX3_append_16 : decode cX3_append 16 = .ok (.aload_n 0, 1) := by decide +kernel
theorem dX3_append_17 : decode cX3_append 17 = .ok (.getfield 15, 3) := by decide +kernel
theorem dX3_append_20 : decode cX3_append 20 = .ok (.iload 4, 2) := by decide +kernel
theorem dX3_append_22 : decode cX3_append 22 = .ok (.iload_n 2, 1) := by decide +kernel
theorem dX3_append_23 : decode cX3_append 23 = .ok (.invokestatic 52, 3) := by decide +kernel
theorem dX3_append_26 : decode cX3_append 26 = .ok (.aload_n 0, 1) := by decide +kernel
theorem dX3_append_27 : decode cX3_append 27 = .ok (.getfield 18, 3) := by decide +kernel
theorem dX3_append_30 : decode cX3_append 30 = .ok (.iload 4, 2) := by decide +kernel
theorem dX3_append_32 : decode cX3_append 32 = .ok (.iload_n 3, 1) := by decide +kernel
theorem dX3_append_33 : decode cX3_append 33 = .ok (.invokestatic 52, 3) := by decide +kernel
theorem dX3_append_36 : decode cX3_append 36 = .ok (.aload_n 0, 1) := by decide +kernel
theorem dX3_append_37 : decode cX3_append 37 = .ok (.dup, 1) := by decide +kernel
theorem dX3_append_38 : decode cX3_append 38 = .ok (.getfield 34, 3) := by decide +kernel
theorem dX3_append_41 : decode cX3_append 41 = .ok (.iconst 1, 1) := by decide +kernel
theorem dX3_append_42 : decode cX3_append 42 = .ok (.iadd, 1) := by decide +kernel
theorem dX3_append_43 : decode cX3_append 43 = .ok (.putfield 34, 3) := by decide +kernel
theorem dX3_append_46 : decode cX3_append 46 = .ok (.aload_n 0, 1) := by decide +kernel
theorem dX3_append_47 : decode cX3_append 47 = .ok (.invokevirtual 49, 3) := by decide +kernel
theorem dX3_append_50 : decode cX3_append 50 = .ok (.iload 4, 2) := by decide +kernel
theorem dX3_append_52 : decode cX3_append 52 = .ok (.ireturn, 1) := by decide +kernel
theorem dX3_changeLength_0 : decode cX3_changeLength 0 = .ok (.aload_n 0, 1) := by decide +kernel
theorem dX3_changeLength_1 : decode cX3_changeLength 1 = .ok (.iload_n 1, 1) := by decide +kernel
theorem dX3_changeLength_2 : decode cX3_changeLength 2 = .ok (.invokevirtual 56, 3) := by decide +kernel
theorem dX3_changeLength_5 : decode cX3_changeLength 5 = .ok (.istore_n 3, 1) := by decide +kernel
theorem dX3_changeLength_6 : decode cX3_changeLength 6 = .ok (.aload_n 0, 1) := by decide +kernel
theorem dX3_changeLength_7 : decode cX3_changeLength 7 = .ok (.getfield 18, 3) := by decide +kernel
theorem dX3_changeLength_10 : decode cX3_changeLength 10 = .ok (.iload_n 1, 1) := by decide +kernel
theorem dX3_changeLength_11 : decode cX3_changeLength 11 = .ok (.iload_n 2, 1) := by decide +kernel
theorem dX3_changeLength_12 : decode cX3_changeLength 12 = .ok (.invokestatic 52, 3) := by decide +kernel
theorem dX3_changeLength_15 : decode cX3_changeLength 15 = .ok (.iload_n 3, 1) := by decide +kernel
theorem dX3_changeLength_16 : decode cX3_changeLength 16 = .ok (.ireturn, 1) := by decide +kernel
theorem dX3_switchEdge_0 : decode cX3_switchEdge 0 = .ok (.aload_n 0, 1) := by decide +kernel
theorem dX3_switchEdge_1 : decode cX3_switchEdge 1 = .ok (.dup, 1) := by decide +kernel
theorem dX3_switchEdge_2 : decode cX3_switchEdge 2 = .ok (.getfield 40, 3) := by decide +kernel
theorem dX3_switchEdge_5 : decode cX3_switchEdge 5 = .ok (.iconst 1, 1) := by decide +kernel
theorem dX3_switchEdge_6 : decode cX3_switchEdge 6 = .ok (.iload_n 1, 1) := by decide +kernel
theorem dX3_switchEdge_7 : decode cX3_switchEdge 7 = .ok (.ishl, 1) := by decide +kernel
theorem dX3_switchEdge_8 : decode cX3_switchEdge 8 = .ok (.ixor, 1) := by decide +kernel
theorem dX3_switchEdge_9 : decode cX3_switchEdge 9 = .ok (.putfield 40, 3) := by decide +kernel
theorem dX3_switchEdge_12 : decode cX3_switchEdge 12 = .ok (.aload_n 0, 1) := by decide +kernel
theorem dX3_switchEdge_13 : decode cX3_switchEdge 13 = .ok (.invokevirtual 49, 3) := by decide +kernel
theorem dX3_switchEdge_16 : decode cX3_switchEdge 16 = .ok (.aload_n 0, 1) := by decide +kernel
theorem dX3_switchEdge_17 : decode cX3_switchEdge 17 = .ok (.getfield 40, 3) := by decide +kernel
theorem dX3_switchEdge_20 : decode cX3_switchEdge 20 = .ok (.iload_n 1, 1) := by decide +kernel
theorem dX3_switchEdge_21 : decode cX3_switchEdge 21 = .ok (.invokestatic 60, 3) := by decide +kernel
theorem dX3_switchEdge_24 : decode cX3_switchEdge 24 = .ok (.ireturn, 1) := by decide +kernel
theorem dX3_switchNode_0 : decode cX3_switchNode 0 = .ok (.aload_n 0, 1) := by decide +kernel
theorem dX3_switchNode_1 : decode cX3_switchNode 1 = .ok (.dup, 1) := by decide +kernel
theorem dX3_switchNode_2 : decode cX3_switchNode 2 = .ok (.getfield 37, 3) := by decide +kernel
theorem dX3_switchNode_5 : decode cX3_switchNode 5 = .ok (.iconst 1, 1) := by decide +kernel
theorem dX3_switchNode_6 : decode cX3_switchNode 6 = .ok (.iload_n 1, 1) := by decide +kernel
theorem dX3_switchNode_7 : decode cX3_switchNode 7 = .ok (.ishl, 1) := by decide +kernel
theorem dX3_switchNode_8 : decode cX3_switchNode 8 = .ok (.ixor, 1) := by decide +kernel
theorem dX3_switchNode_9 : decode cX3_switchNode 9 = .ok (.putfield 37, 3) := by decide +kernel
theorem dX3_switchNode_12 : decode cX3_switchNode 12 = .ok (.aload_n 0, 1) := by decide +kernel
theorem dX3_switchNode_13 : decode cX3_switchNode 13 = .ok (.invokevirtual 49, 3) := by decide +kernel
theorem dX3_switchNode_16 : decode cX3_switchNode 16 = .ok (.aload_n 0, 1) := by decide +kernel
theorem dX3_switchNode_17 : decode cX3_switchNode 17 = .ok (.getfield 37, 3) := by decide +kernel
theorem dX3_switchNode_20 : decode cX3_switchNode 20 = .ok (.iload_n 1, 1) := by decide +kernel
theorem dX3_switchNode_21 : decode cX3_switchNode 21 = .ok (.invokestatic 60, 3) := by decide +kernel
theorem dX3_switchNode_24 : decode cX3_switchNode 24 = .ok (.ireturn, 1) := by decide +kernel
theorem dX3_switchTurn_0 : decode cX3_switchTurn 0 = .ok (.aload_n 0, 1) := by decide +kernel
theorem dX3_switchTurn_1 : decode cX3_switchTurn 1 = .ok (.getfield 21, 3) := by decide +kernel
theorem dX3_switchTurn_4 : decode cX3_switchTurn 4 = .ok (.iload_n 1, 1) := by decide +kernel
theorem dX3_switchTurn_5 : decode cX3_switchTurn 5 = .ok (.aload_n 0, 1) := by decide +kernel
theorem dX3_switchTurn_6 : decode cX3_switchTurn 6 = .ok (.getfield 21, 3) := by decide +kernel
theorem dX3_switchTurn_9 : decode cX3_switchTurn 9 = .ok (.iload_n 1, 1) := by decide +kernel
theorem dX3_switchTurn_10 : decode cX3_switchTurn 10 = .ok (.invokestatic 64, 3) := by decide +kernel
theorem dX3_switchTurn_13 : decode cX3_switchTurn 13 = .ok (.iconst 1, 1) := by decide +kernel
theorem dX3_switchTurn_14 : decode cX3_switchTurn 14 = .ok (.iload_n 2, 1) := by decide +kernel
theorem dX3_switchTurn_15 : decode cX3_switchTurn 15 = .ok (.ishl, 1) := by decide +kernel
theorem dX3_switchTurn_16 : decode cX3_switchTurn 16 = .ok (.ixor, 1) := by decide +kernel
theorem dX3_switchTurn_17 : decode cX3_switchTurn 17 = .ok (.invokestatic 52, 3) := by decide +kernel
theorem dX3_switchTurn_20 : decode cX3_switchTurn 20 = .ok (.aload_n 0, 1) := by decide +kernel
theorem dX3_switchTurn_21 : decode cX3_switchTurn 21 = .ok (.iload_n 1, 1) := by decide +kernel
theorem dX3_switchTurn_22 : decode cX3_switchTurn 22 = .ok (.iload_n 2, 1) := by decide +kernel
theorem dX3_switchTurn_23 : decode cX3_switchTurn 23 = .ok (.invokevirtual 68, 3) := by decide +kernel
theorem dX3_switchTurn_26 : decode cX3_switchTurn 26 = .ok (.ireturn, 1) := by decide +kernel
theorem dX3_listOutEdges_0 : decode cX3_listOutEdges 0 = .ok (.iconst 0, 1) := by decide +kernel
theorem dX3_listOutEdges_1 : decode cX3_listOutEdges 1 = .ok (.istore_n 1, 1) := by decide +kernel
theorem dX3_listOutEdges_2 : decode cX3_listOutEdges 2 = .ok (.iconst 0, 1) := by decide +kernel
theorem dX3_listOutEdges_3 : decode cX3_listOutEdges 3 = .ok (.istore_n 2, 1) := by decide +kernel
theorem dX3_listOutEdges_4 : decode cX3_listOutEdges 4 = .ok (.iload_n 2, 1) := by decide +kernel
theorem dX3_listOutEdges_5 : decode cX3_listOutEdges 5 = .ok (.bipush 10, 2) := by decide +kernel
theorem dX3_listOutEdges_7 : decode cX3_listOutEdges 7 = .ok (.if_icmp .ge 63, 3) := by decide +kernel
theorem dX3_listOutEdges_10 : decode cX3_listOutEdges 10 = .ok (.aload_n 0, 1) := by decide +kernel
theorem dX3_listOutEdges_11 : decode cX3_listOutEdges 11 = .ok (.getfield 27, 3) := by decide +kernel
theorem dX3_listOutEdges_14 : decode cX3_listOutEdges 14 = .ok (.iload_n 2, 1) := by decide +kernel
theorem dX3_listOutEdges_15 : decode cX3_listOutEdges 15 = .ok (.iload_n 1, 1) := by decide +kernel
theorem dX3_listOutEdges_16 : decode cX3_listOutEdges 16 = .ok (.invokestatic 52, 3) := by decide +kernel
theorem dX3_listOutEdges_19 : decode cX3_listOutEdges 19 = .ok (.iconst 0, 1) := by decide +kernel
theorem dX3_listOutEdges_20 : decode cX3_listOutEdges 20 = .ok (.istore_n 3, 1) := by decide +kernel
theorem dX3_listOutEdges_21 : decode cX3_listOutEdges 21 = .ok (.iload_n 3, 1) := by decide +kernel
theorem dX3_listOutEdges_22 : decode cX3_listOutEdges 22 = .ok (.aload_n 0, 1) := by decide +kernel
theorem dX3_listOutEdges_23 : decode cX3_listOutEdges 23 = .ok (.getfield 34, 3) := by decide +kernel
theorem dX3_listOutEdges_26 : decode cX3_listOutEdges 26 = .ok (.if_icmp .ge 38, 3) := by decide +kernel
theorem dX3_listOutEdges_29 : decode cX3_listOutEdges 29 = .ok (.aload_n 0, 1) := by decide +kernel
theorem dX3_listOutEdges_30 : decode cX3_listOutEdges 30 = .ok (.iload_n 3, 1) := by decide +kernel
theorem dX3_listOutEdges_31 : decode cX3_listOutEdges 31 = .ok (.invokevirtual 71, 3) := by decide +kernel
theorem dX3_listOutEdges_34 : decode cX3_listOutEdges 34 = .ok (.iload_n 2, 1) := by decide +kernel
theorem dX3_listOutEdges_35 : decode cX3_listOutEdges 35 = .ok (.if_icmp .ne 23, 3) := by decide +kernel
theorem dX3_listOutEdges_38 : decode cX3_listOutEdges 38 = .ok (.aload_n 0, 1) := by decide +kernel
theorem dX3_listOutEdges_39 : decode cX3_listOutEdges 39 = .ok (.iload_n 3, 1) := by decide +kernel
theorem dX3_listOutEdges_40 : decode cX3_listOutEdges 40 = .ok (.invokevirtual 74, 3) := by decide +kernel
theorem dX3_listOutEdges_43 : decode cX3_listOutEdges 43 = .ok (.ifCond .eq 15, 3) := by decide +kernel
theorem dX3_listOutEdges_46 : decode cX3_listOutEdges 46 = .ok (.aload_n 0, 1) := by decide +kernel
theorem dX3_listOutEdges_47 : decode cX3_listOutEdges 47 = .ok (.getfield 24, 3) := by decide +kernel
theorem dX3_listOutEdges_50 : decode cX3_listOutEdges 50 = .ok (.iload_n 1, 1) := by decide +kernel
theorem dX3_listOutEdges_51 : decode cX3_listOutEdges 51 = .ok (.iload_n 3, 1) := by decide +kernel
theorem dX3_listOutEdges_52 : decode cX3_listOutEdges 52 = .ok (.invokestatic 52, 3) := by decide +kernel
theorem dX3_listOutEdges_55 : decode cX3_listOutEdges 55 = .ok (.iinc 1 1, 3) := by decide +kernel
theorem dX3_listOutEdges_58 : decode cX3_listOutEdges 58 = .ok (.iinc 3 1, 3) := by decide +kernel
theorem dX3_listOutEdges_61 : decode cX3_listOutEdges 61 = .ok (.goto (-40), 3) := by decide +kernel
theorem dX3_listOutEdges_64 : decode cX3_listOutEdges 64 = .ok (.iinc 2 1, 3) := by decide +kernel
theorem dX3_listOutEdges_67 : decode cX3_listOutEdges 67 = .ok (.goto (-63), 3) := by decide +kernel
theorem dX3_listOutEdges_70 : decode cX3_listOutEdges 70 = .ok (.aload_n 0, 1) := by decide +kernel
theorem dX3_listOutEdges_71 : decode cX3_listOutEdges 71 = .ok (.getfield 27, 3) := by decide +kernel
theorem dX3_listOutEdges_74 : decode cX3_listOutEdges 74 = .ok (.bipush 10, 2) := by decide +kernel
theorem dX3_listOutEdges_76 : decode cX3_listOutEdges 76 = .ok (.iload_n 1, 1) := by decide +kernel
theorem dX3_listOutEdges_77 : decode cX3_listOutEdges 77 = .ok (.invokestatic 52, 3) := by decide +kernel
theorem dX3_listOutEdges_80 : decode cX3_listOutEdges 80 = .ok (.return_, 1) := by decide +kernel
theorem dX3_isUsable_0 : decode cX3_isUsable 0 = .ok (.aload_n 0, 1) := by decide +kernel
theorem dX3_isUsable_1 : decode cX3_isUsable 1 = .ok (.getfield 37, 3) := by decide +kernel
theorem dX3_isUsable_4 : decode cX3_isUsable 4 = .ok (.aload_n 0, 1) := by decide +kernel
theorem dX3_isUsable_5 : decode cX3_isUsable 5 = .ok (.iload_n 1, 1) := by decide +kernel
theorem dX3_isUsable_6 : decode cX3_isUsable 6 = .ok (.invokevirtual 71, 3) := by decide +kernel
theorem dX3_isUsable_9 : decode cX3_isUsable 9 = .ok (.invokestatic 60, 3) := by decide +kernel
theorem dX3_isUsable_12 : decode cX3_isUsable 12 = .ok (.ifCond .ne 18, 3) := by decide +kernel
theorem dX3_isUsable_15 : decode cX3_isUsable 15 = .ok (.aload_n 0, 1) := by decide +kernel
theorem dX3_isUsable_16 : decode cX3_isUsable 16 = .ok (.getfield 37, 3) := by decide +kernel
theorem dX3_isUsable_19 : decode cX3_isUsable 19 = .ok (.aload_n 0, 1) := by decide +kernel
theorem dX3_isUsable_20 : decode cX3_isUsable 20 = .ok (.iload_n 1, 1) := by decide +kernel
theorem dX3_isUsable_21 : decode cX3_isUsable 21 = .ok (.invokevirtual 78, 3) := by decide +kernel
theorem dX3_isUsable_24 : decode cX3_isUsable 24 = .ok (.invokestatic 60, 3) := by decide +kernel
theorem dX3_isUsable_27 : decode cX3_isUsable 27 = .ok (.ifCond .eq 7, 3) := by decide +kernel
theorem dX3_isUsable_30 : decode cX3_isUsable 30 = .ok (.iconst 1, 1) := by decide +kernel
theorem dX3_isUsable_31 : decode cX3_isUsable 31 = .ok (.goto 4, 3) := by decide +kernel
theorem dX3_isUsable_34 : decode cX3_isUsable 34 = .ok (.iconst 0, 1) := by decide +kernel
theorem dX3_isUsable_35 : decode cX3_isUsable 35 = .ok (.istore_n 2, 1) := by decide +kernel
theorem dX3_isUsable_36 : decode cX3_isUsable 36 = .ok (.iload_n 2, 1) := by decide +kernel
theorem dX3_isUsable_37 : decode cX3_isUsable 37 = .ok (.ifCond .ne 18, 3) := by decide +kernel
theorem dX3_isUsable_40 : decode cX3_isUsable 40 = .ok (.aload_n 0, 1) := by decide +kernel
theorem dX3_isUsable_41 : decode cX3_isUsable 41 = .ok (.getfield 40, 3) := by decide +kernel
theorem dX3_isUsable_44 : decode cX3_isUsable 44 = .ok (.iload_n 1, 1) := by decide +kernel
theorem dX3_isUsable_45 : decode cX3_isUsable 45 = .ok (.invokestatic 60, 3) := by decide +kernel
theorem dX3_isUsable_48 : decode cX3_isUsable 48 = .ok (.ifCond .ne 7, 3) := by decide +kernel
theorem dX3_isUsable_51 : decode cX3_isUsable 51 = .ok (.iconst 1, 1) := by decide +kernel
theorem dX3_isUsable_52 : decode cX3_isUsable 52 = .ok (.goto 4, 3) := by decide +kernel
theorem dX3_isUsable_55 : decode cX3_isUsable 55 = .ok (.iconst 0, 1) := by decide +kernel
theorem dX3_isUsable_56 : decode cX3_isUsable 56 = .ok (.ireturn, 1) := by decide +kernel
theorem dX3_hasNode_0 : decode cX3_hasNode 0 = .ok (.iload_n 1, 1) := by decide +kernel
theorem dX3_hasNode_1 : decode cX3_hasNode 1 = .ok (.ifCond .lt 15, 3) := by decide +kernel
theorem dX3_hasNode_4 : decode cX3_hasNode 4 = .ok (.iload_n 1, 1) := by decide +kernel
theorem dX3_hasNode_5 : decode cX3_hasNode 5 = .ok (.aload_n 0, 1) := by decide +kernel
theorem dX3_hasNode_6 : decode cX3_hasNode 6 = .ok (.getfield 30, 3) := by decide +kernel
theorem dX3_hasNode_9 : decode cX3_hasNode 9 = .ok (.if_icmp .ge 7, 3) := by decide +kernel
theorem dX3_hasNode_12 : decode cX3_hasNode 12 = .ok (.iconst 1, 1) := by decide +kernel
theorem dX3_hasNode_13 : decode cX3_hasNode 13 = .ok (.goto 4, 3) := by decide +kernel
theorem dX3_hasNode_16 : decode cX3_hasNode 16 = .ok (.iconst 0, 1) := by decide +kernel
theorem dX3_hasNode_17 : decode cX3_hasNode 17 = .ok (.ireturn, 1) := by decide +kernel
theorem dX3_hasEdge_0 : decode cX3_hasEdge 0 = .ok (.iload_n 1, 1) := by decide +kernel
theorem dX3_hasEdge_1 : decode cX3_hasEdge 1 = .ok (.ifCond .lt 15, 3) := by decide +kernel
theorem dX3_hasEdge_4 : decode cX3_hasEdge 4 = .ok (.iload_n 1, 1) := by decide +kernel
theorem dX3_hasEdge_5 : decode cX3_hasEdge 5 = .ok (.aload_n 0, 1) := by decide +kernel
theorem dX3_hasEdge_6 : decode cX3_hasEdge 6 = .ok (.getfield 34, 3) := by decide +kernel
theorem dX3_hasEdge_9 : decode cX3_hasEdge 9 = .ok (.if_icmp .ge 7, 3) := by decide +kernel
theorem dX3_hasEdge_12 : decode cX3_hasEdge 12 = .ok (.iconst 1, 1) := by decide +kernel
theorem dX3_hasEdge_13 : decode cX3_hasEdge 13 = .ok (.goto 4, 3) := by decide +kernel
theorem dX3_hasEdge_16 : decode cX3_hasEdge 16 = .ok (.iconst 0, 1) := by decide +kernel
theorem dX3_hasEdge_17 : decode cX3_hasEdge 17 = .ok (.ireturn, 1) := by decide +kernel
theorem dX3_hasRoom_0 : decode cX3_hasRoom 0 = .ok (.aload_n 0, 1) := by decide +kernel
theorem dX3_hasRoom_1 : decode cX3_hasRoom 1 = .ok (.getfield 34, 3) := by decide +kernel
theorem dX3_hasRoom_4 : decode cX3_hasRoom 4 = .ok (.bipush 24, 2) := by decide +kernel
theorem dX3_hasRoom_6 : decode cX3_hasRoom 6 = .ok (.if_icmp .ge 7, 3) := by decide +kernel
theorem dX3_hasRoom_9 : decode cX3_hasRoom 9 = .ok (.iconst 1, 1) := by decide +kernel
theorem dX3_hasRoom_10 : decode cX3_hasRoom 10 = .ok (.goto 4, 3) := by decide +kernel
theorem dX3_hasRoom_13 : decode cX3_hasRoom 13 = .ok (.iconst 0, 1) := by decide +kernel
theorem dX3_hasRoom_14 : decode cX3_hasRoom 14 = .ok (.ireturn, 1) := by decide +kernel
theorem dX3_isForbidden_0 : decode cX3_isForbidden 0 = .ok (.aload_n 0, 1) := by decide +kernel
theorem dX3_isForbidden_1 : decode cX3_isForbidden 1 = .ok (.getfield 21, 3) := by decide +kernel
theorem dX3_isForbidden_4 : decode cX3_isForbidden 4 = .ok (.iload_n 1, 1) := by decide +kernel
theorem dX3_isForbidden_5 : decode cX3_isForbidden 5 = .ok (.invokestatic 64, 3) := by decide +kernel
theorem dX3_isForbidden_8 : decode cX3_isForbidden 8 = .ok (.iload_n 2, 1) := by decide +kernel
theorem dX3_isForbidden_9 : decode cX3_isForbidden 9 = .ok (.invokestatic 60, 3) := by decide +kernel
theorem dX3_isForbidden_12 : decode cX3_isForbidden 12 = .ok (.ireturn, 1) := by decide +kernel
theorem dX3_nodeTotal_0 : decode cX3_nodeTotal 0 = .ok (.aload_n 0, 1) := by decide +kernel
theorem dX3_nodeTotal_1 : decode cX3_nodeTotal 1 = .ok (.getfield 30, 3) := by decide +kernel
theorem dX3_nodeTotal_4 : decode cX3_nodeTotal 4 = .ok (.ireturn, 1) := by decide +kernel
theorem dX3_edgeTotal_0 : decode cX3_edgeTotal 0 = .ok (.aload_n 0, 1) := by decide +kernel
theorem dX3_edgeTotal_1 : decode cX3_edgeTotal 1 = .ok (.getfield 34, 3) := by decide +kernel
theorem dX3_edgeTotal_4 : decode cX3_edgeTotal 4 = .ok (.ireturn, 1) := by decide +kernel
theorem dX3_usableTotal_0 : decode cX3_usableTotal 0 = .ok (.aload_n 0, 1) := by decide +kernel
theorem dX3_usableTotal_1 : decode cX3_usableTotal 1 = .ok (.getfield 27, 3) := by decide +kernel
theorem dX3_usableTotal_4 : decode cX3_usableTotal 4 = .ok (.bipush 10, 2) := by decide +kernel
theorem dX3_usableTotal_6 : decode cX3_usableTotal 6 = .ok (.invokestatic 64, 3) := by decide +kernel
theorem dX3_usableTotal_9 : decode cX3_usableTotal 9 = .ok (.ireturn, 1) := by decide +kernel
theorem dX3_tailOf_0 : decode cX3_tailOf 0 = .ok (.aload_n 0, 1) := by decide +kernel
theorem dX3_tailOf_1 : decode cX3_tailOf 1 = .ok (.getfield 9, 3) := by decide +kernel
theorem dX3_tailOf_4 : decode cX3_tailOf 4 = .ok (.iload_n 1, 1) := by decide +kernel
theorem dX3_tailOf_5 : decode cX3_tailOf 5 = .ok (.invokestatic 64, 3) := by decide +kernel
theorem dX3_tailOf_8 : decode cX3_tailOf 8 = .ok (.ireturn, 1) := by decide +kernel
theorem dX3_headOf_0 : decode cX3_headOf 0 = .ok (.aload_n 0, 1) := by decide +kernel
theorem dX3_headOf_1 : decode cX3_headOf 1 = .ok (.getfield 15, 3) := by decide +kernel
theorem dX3_headOf_4 : decode cX3_headOf 4 = .ok (.iload_n 1, 1) := by decide +kernel
theorem dX3_headOf_5 : decode cX3_headOf 5 = .ok (.invokestatic 64, 3) := by decide +kernel
theorem dX3_headOf_8 : decode cX3_headOf 8 = .ok (.ireturn, 1) := by decide +kernel
theorem dX3_lengthOf_0 : decode cX3_lengthOf 0 = .ok (.aload_n 0, 1) := by decide +kernel
theorem dX3_lengthOf_1 : decode cX3_lengthOf 1 = .ok (.getfield 18, 3) := by decide +kernel
theorem dX3_lengthOf_4 : decode cX3_lengthOf 4 = .ok (.iload_n 1, 1) := by decide +kernel
theorem dX3_lengthOf_5 : decode cX3_lengthOf 5 = .ok (.invokestatic 64, 3) := by decide +kernel
theorem dX3_lengthOf_8 : decode cX3_lengthOf 8 = .ok (.ireturn, 1) := by decide +kernel
theorem dX3_outEdge_0 : decode cX3_outEdge 0 = .ok (.aload_n 0, 1) := by decide +kernel
theorem dX3_outEdge_1 : decode cX3_outEdge 1 = .ok (.getfield 24, 3) := by decide +kernel
theorem dX3_outEdge_4 : decode cX3_outEdge 4 = .ok (.iload_n 1, 1) := by decide +kernel
theorem dX3_outEdge_5 : decode cX3_outEdge 5 = .ok (.invokestatic 64, 3) := by decide +kernel
theorem dX3_outEdge_8 : decode cX3_outEdge 8 = .ok (.ireturn, 1) := by decide +kernel
theorem dX3_outStart_0 : decode cX3_outStart 0 = .ok (.aload_n 0, 1) := by decide +kernel
theorem dX3_outStart_1 : decode cX3_outStart 1 = .ok (.getfield 27, 3) := by decide +kernel
theorem dX3_outStart_4 : decode cX3_outStart 4 = .ok (.iload_n 1, 1) := by decide +kernel
theorem dX3_outStart_5 : decode cX3_outStart 5 = .ok (.invokestatic 64, 3) := by decide +kernel
theorem dX3_outStart_8 : decode cX3_outStart 8 = .ok (.ireturn, 1) := by decide +kernel
theorem dX3_outEnd_0 : decode cX3_outEnd 0 = .ok (.aload_n 0, 1) := by decide +kernel
theorem dX3_outEnd_1 : decode cX3_outEnd 1 = .ok (.getfield 27, 3) := by decide +kernel
theorem dX3_outEnd_4 : decode cX3_outEnd 4 = .ok (.iload_n 1, 1) := by decide +kernel
theorem dX3_outEnd_5 : decode cX3_outEnd 5 = .ok (.iconst 1, 1) := by decide +kernel
theorem dX3_outEnd_6 : decode cX3_outEnd 6 = .ok (.iadd, 1) := by decide +kernel
theorem dX3_outEnd_7 : decode cX3_outEnd 7 = .ok (.invokestatic 64, 3) := by decide +kernel
theorem dX3_outEnd_10 : decode cX3_outEnd 10 = .ok (.ireturn, 1) := by decide +kernel
theorem dX4_init_0 : decode cX4_init 0 = .ok (.aload_n 0, 1) := by decide +kernel
theorem dX4_init_1 : decode cX4_init 1 = .ok (.invokespecial 3, 3) := by decide +kernel
theorem dX4_init_4 : decode cX4_init 4 = .ok (.aload_n 0, 1) := by decide +kernel
theorem dX4_init_5 : decode cX4_init 5 = .ok (.aload_n 1, 1) := by decide +kernel
theorem dX4_init_6 : decode cX4_init 6 = .ok (.putfield 9, 3) := by decide +kernel
theorem dX4_init_9 : decode cX4_init 9 = .ok (.aload_n 0, 1) := by decide +kernel
theorem dX4_init_10 : decode cX4_init 10 = .ok (.new 15, 3) := by decide +kernel
theorem dX4_init_13 : decode cX4_init 13 = .ok (.dup, 1) := by decide +kernel
theorem dX4_init_14 : decode cX4_init 14 = .ok (.aload_n 1, 1) := by decide +kernel
theorem dX4_init_15 : decode cX4_init 15 = .ok (.invokespecial 17, 3) := by decide +kernel
theorem dX4_init_18 : decode cX4_init 18 = .ok (.putfield 20, 3) := by decide +kernel
theorem dX4_init_21 : decode cX4_init 21 = .ok (.return_, 1) := by decide +kernel
theorem dX4_upTo_0 : decode cX4_upTo 0 = .ok (.aload_n 0, 1) := by decide +kernel
theorem dX4_upTo_1 : decode cX4_upTo 1 = .ok (.iload_n 2, 1) := by decide +kernel
theorem dX4_upTo_2 : decode cX4_upTo 2 = .ok (.putfield 24, 3) := by decide +kernel
theorem dX4_upTo_5 : decode cX4_upTo 5 = .ok (.aload_n 0, 1) := by decide +kernel
theorem dX4_upTo_6 : decode cX4_upTo 6 = .ok (.getfield 20, 3) := by decide +kernel
theorem dX4_upTo_9 : decode cX4_upTo 9 = .ok (.iload_n 2, 1) := by decide +kernel
theorem dX4_upTo_10 : decode cX4_upTo 10 = .ok (.invokevirtual 28, 3) := by decide +kernel
theorem dX4_upTo_13 : decode cX4_upTo 13 = .ok (.aload_n 0, 1) := by decide +kernel
theorem dX4_upTo_14 : decode cX4_upTo 14 = .ok (.iload_n 1, 1) := by decide +kernel
theorem dX4_upTo_15 : decode cX4_upTo 15 = .ok (.iconst 1, 1) := by decide +kernel
theorem dX4_upTo_16 : decode cX4_upTo 16 = .ok (.iload_n 1, 1) := by decide +kernel
theorem dX4_upTo_17 : decode cX4_upTo 17 = .ok (.ishl, 1) := by decide +kernel
theorem dX4_upTo_18 : decode cX4_upTo 18 = .ok (.iload_n 3, 1) := by decide +kernel
theorem dX4_upTo_19 : decode cX4_upTo 19 = .ok (.iconst 0, 1) := by decide +kernel
theorem dX4_upTo_20 : decode cX4_upTo 20 = .ok (.invokestatic 32, 3) := by decide +kernel
theorem dX4_upTo_23 : decode cX4_upTo 23 = .ok (.ireturn, 1) := by decide +kernel
theorem dX4_countFrom_0 : decode cX4_countFrom 0 = .ok (.iload 4, 2) := by decide +kernel
theorem dX4_countFrom_2 : decode cX4_countFrom 2 = .ok (.bipush 9, 2) := by decide +kernel
theorem dX4_countFrom_4 : decode cX4_countFrom 4 = .ok (.if_icmp .lt 5, 3) := by decide +kernel
theorem dX4_countFrom_7 : decode cX4_countFrom 7 = .ok (.iconst 0, 1) := by decide +kernel
theorem dX4_countFrom_8 : decode cX4_countFrom 8 = .ok (.ireturn, 1) := by decide +kernel
theorem dX4_countFrom_9 : decode cX4_countFrom 9 = .ok (.aload_n 0, 1) := by decide +kernel
theorem dX4_countFrom_10 : decode cX4_countFrom 10 = .ok (.getfield 9, 3) := by decide +kernel
theorem dX4_countFrom_13 : decode cX4_countFrom 13 = .ok (.astore 5, 2) := by decide +kernel
theorem dX4_countFrom_15 : decode cX4_countFrom 15 = .ok (.iconst 0, 1) := by decide +kernel
theorem dX4_countFrom_16 : decode cX4_countFrom 16 = .ok (.istore 6, 2) := by decide +kernel
theorem dX4_countFrom_18 : decode cX4_countFrom 18 = .ok (.aload 5, 2) := by decide +kernel
theorem dX4_countFrom_20 : decode cX4_countFrom 20 = .ok (.iload_n 1, 1) := by decide +kernel
theorem dX4_countFrom_21 : decode cX4_countFrom 21 = .ok (.invokevirtual 36, 3) := by decide +kernel
theorem dX4_countFrom_24 : decode cX4_countFrom 24 = .ok (.istore 7, 2) := by decide +kernel
theorem dX4_countFrom_26 : decode cX4_countFrom 26 = .ok (.iload 7, 2) := by decide +kernel
theorem dX4_countFrom_28 : decode cX4_countFrom 28 = .ok (.aload 5, 2) := by decide +kernel
theorem dX4_countFrom_30 : decode cX4_countFrom 30 = .ok (.iload_n 1, 1) := by decide +kernel
theorem dX4_countFrom_31 : decode cX4_countFrom 31 = .ok (.invokevirtual 42, 3) := by decide +kernel
theorem dX4_countFrom_34 : decode cX4_countFrom 34 = .ok (.if_icmp .ge 100, 3) := by decide +kernel
theorem dX4_countFrom_37 : decode cX4_countFrom 37 = .ok (.aload 5, 2) := by decide +kernel
theorem dX4_countFrom_39 : decode cX4_countFrom 39 = .ok (.iload 7, 2) := by decide +kernel
theorem dX4_countFrom_41 : decode cX4_countFrom 41 = .ok (.invokevirtual 45, 3) := by decide +kernel
theorem dX4_countFrom_44 : decode cX4_countFrom 44 = .ok (.istore 8, 2) := by decide +kernel
theorem dX4_countFrom_46 : decode cX4_countFrom 46 = .ok (.aload 5, 2) := by decide +kernel
theorem dX4_countFrom_48 : decode cX4_countFrom 48 = .ok (.iload 8, 2) := by decide +kernel
theorem dX4_countFrom_50 : decode cX4_countFrom 50 = .ok (.invokevirtual 48, 3) := by decide +kernel
theorem dX4_countFrom_53 : decode cX4_countFrom 53 = .ok (.istore 9, 2) := by decide +kernel
theorem dX4_countFrom_55 : decode cX4_countFrom 55 = .ok (.iload_n 3, 1) := by decide +kernel
theorem dX4_countFrom_56 : decode cX4_countFrom 56 = .ok (.aload 5, 2) := by decide +kernel
theorem dX4_countFrom_58 : decode cX4_countFrom 58 = .ok (.iload 8, 2) := by decide +kernel
theorem dX4_countFrom_60 : decode cX4_countFrom 60 = .ok (.invokevirtual 51, 3) := by decide +kernel
theorem dX4_countFrom_63 : decode cX4_countFrom 63 = .ok (.isub, 1) := by decide +kernel
theorem dX4_countFrom_64 : decode cX4_countFrom 64 = .ok (.istore 10, 2) := by decide +kernel
theorem dX4_countFrom_66 : decode cX4_countFrom 66 = .ok (.iload_n 2, 1) := by decide +kernel
theorem dX4_countFrom_67 : decode cX4_countFrom 67 = .ok (.iload 9, 2) := by decide +kernel
theorem dX4_countFrom_69 : decode cX4_countFrom 69 = .ok (.invokestatic 54, 3) := by decide +kernel
theorem dX4_countFrom_72 : decode cX4_countFrom 72 = .ok (.ifCond .ne 56, 3) := by decide +kernel
theorem dX4_countFrom_75 : decode cX4_countFrom 75 = .ok (.aload_n 0, 1) := by decide +kernel
theorem dX4_countFrom_76 : decode cX4_countFrom 76 = .ok (.getfield 20, 3) := by decide +kernel
theorem dX4_countFrom_79 : decode cX4_countFrom 79 = .ok (.iload 9, 2) := by decide +kernel
theorem dX4_countFrom_81 : decode cX4_countFrom 81 = .ok (.invokevirtual 58, 3) := by decide +kernel
theorem dX4_countFrom_84 : decode cX4_countFrom 84 = .ok (.iload 10, 2) := by decide +kernel
theorem dX4_countFrom_86 : decode cX4_countFrom 86 = .ok (.if_icmp .le 6, 3) := by decide +kernel
theorem dX4_countFrom_89 : decode cX4_countFrom 89 = .ok (.goto 39, 3) := by decide +kernel
theorem dX4_countFrom_92 : decode cX4_countFrom 92 = .ok (.iload 6, 2) := by decide +kernel
theorem dX4_countFrom_94 : decode cX4_countFrom 94 = .ok (.iload 9, 2) := by decide +kernel
theorem dX4_countFrom_96 : decode cX4_countFrom 96 = .ok (.aload_n 0, 1) := by decide +kernel
theorem dX4_countFrom_97 : decode cX4_countFrom 97 = .ok (.getfield 24, 3) := by decide +kernel
theorem dX4_countFrom_100 : decode cX4_countFrom 100 = .ok (.if_icmp .ne 7, 3) := by decide +kernel
theorem dX4_countFrom_103 : decode cX4_countFrom 103 = .ok (.iconst 1, 1) := by decide +kernel
theorem dX4_countFrom_104 : decode cX4_countFrom 104 = .ok (.goto 21, 3) := by decide +kernel
theorem dX4_countFrom_107 : decode cX4_countFrom 107 = .ok (.aload_n 0, 1) := by decide +kernel
theorem dX4_countFrom_108 : decode cX4_countFrom 108 = .ok (.iload 9, 2) := by decide +kernel
theorem dX4_countFrom_110 : decode cX4_countFrom 110 = .ok (.iload_n 2, 1) := by decide +kernel
theorem dX4_countFrom_111 : decode cX4_countFrom 111 = .ok (.iconst 1, 1) := by decide +kernel
theorem dX4_countFrom_112 : decode cX4_countFrom 112 = .ok (.iload 9, 2) := by decide +kernel
theorem dX4_countFrom_114 : decode cX4_countFrom 114 = .ok (.ishl, 1) := by decide +kernel
theorem dX4_countFrom_115 : decode cX4_countFrom 115 = .ok (.ior, 1) := by decide +kernel
theorem dX4_countFrom_116 : decode cX4_countFrom 116 = .ok (.iload 10, 2) := by decide +kernel
theorem dX4_countFrom_118 : decode cX4_countFrom 118 = .ok (.iload 4, 2) := by decide +kernel
theorem dX4_countFrom_120 : decode cX4_countFrom 120 = .ok (.iconst 1, 1) := by decide +kernel
theorem dX4_countFrom_121 : decode cX4_countFrom 121 = .ok (.iadd, 1) := by decide +kernel
theorem dX4_countFrom_122 : decode cX4_countFrom 122 = .ok (.invokestatic 32, 3) := by decide +kernel
theorem dX4_countFrom_125 : decode cX4_countFrom 125 = .ok (.iadd, 1) := by decide +kernel
theorem dX4_countFrom_126 : decode cX4_countFrom 126 = .ok (.istore 6, 2) := by decide +kernel
theorem dX4_countFrom_128 : decode cX4_countFrom 128 = .ok (.iinc 7 1, 3) := by decide +kernel
theorem dX4_countFrom_131 : decode cX4_countFrom 131 = .ok (.goto (-105), 3) := by decide +kernel
theorem dX4_countFrom_134 : decode cX4_countFrom 134 = .ok (.iload 6, 2) := by decide +kernel
theorem dX4_countFrom_136 : decode cX4_countFrom 136 = .ok (.ireturn, 1) := by decide +kernel
theorem dX5_init_0 : decode cX5_init 0 = .ok (.aload_n 0, 1) := by decide +kernel
theorem dX5_init_1 : decode cX5_init 1 = .ok (.invokespecial 5, 3) := by decide +kernel
theorem dX5_init_4 : decode cX5_init 4 = .ok (.aload_n 0, 1) := by decide +kernel
theorem dX5_init_5 : decode cX5_init 5 = .ok (.bipush 16, 2) := by decide +kernel
theorem dX5_init_7 : decode cX5_init 7 = .ok (.newarray .long, 2) := by decide +kernel
theorem dX5_init_9 : decode cX5_init 9 = .ok (.putfield 11, 3) := by decide +kernel
theorem dX5_init_12 : decode cX5_init 12 = .ok (.aload_n 0, 1) := by decide +kernel
theorem dX5_init_13 : decode cX5_init 13 = .ok (.aload_n 1, 1) := by decide +kernel
theorem dX5_init_14 : decode cX5_init 14 = .ok (.putfield 15, 3) := by decide +kernel
theorem dX5_init_17 : decode cX5_init 17 = .ok (.aload_n 0, 1) := by decide +kernel
theorem dX5_init_18 : decode cX5_init 18 = .ok (.new 19, 3) := by decide +kernel
theorem dX5_init_21 : decode cX5_init 21 = .ok (.dup, 1) := by decide +kernel
theorem dX5_init_22 : decode cX5_init 22 = .ok (.aload_n 1, 1) := by decide +kernel
theorem dX5_init_23 : decode cX5_init 23 = .ok (.invokespecial 21, 3) := by decide +kernel
theorem dX5_init_26 : decode cX5_init 26 = .ok (.putfield 24, 3) := by decide +kernel
theorem dX5_init_29 : decode cX5_init 29 = .ok (.return_, 1) := by decide +kernel
theorem dX5_restart_0 : decode cX5_restart 0 = .ok (.aload_n 0, 1) := by decide +kernel
theorem dX5_restart_1 : decode cX5_restart 1 = .ok (.iload_n 1, 1) := by decide +kernel
theorem dX5_restart_2 : decode cX5_restart 2 = .ok (.putfield 28, 3) := by decide +kernel
theorem dX5_restart_5 : decode cX5_restart 5 = .ok (.aload_n 0, 1) := by decide +kernel
theorem dX5_restart_6 : decode cX5_restart 6 = .ok (.iload_n 2, 1) := by decide +kernel
theorem dX5_restart_7 : decode cX5_restart 7 = .ok (.putfield 32, 3) := by decide +kernel
theorem dX5_restart_10 : decode cX5_restart 10 = .ok (.aload_n 0, 1) := by decide +kernel
theorem dX5_restart_11 : decode cX5_restart 11 = .ok (.iconst 0, 1) := by decide +kernel
theorem dX5_restart_12 : decode cX5_restart 12 = .ok (.putfield 35, 3) := by decide +kernel
theorem dX5_restart_15 : decode cX5_restart 15 = .ok (.aload_n 0, 1) := by decide +kernel
theorem dX5_restart_16 : decode cX5_restart 16 = .ok (.lconst 0, 1) := by decide +kernel
theorem dX5_restart_17 : decode cX5_restart 17 = .ok (.putfield 38, 3) := by decide +kernel
theorem dX5_restart_20 : decode cX5_restart 20 = .ok (.aload_n 0, 1) := by decide +kernel
theorem dX5_restart_21 : decode cX5_restart 21 = .ok (.iconst 0, 1) := by decide +kernel
theorem dX5_restart_22 : decode cX5_restart 22 = .ok (.putfield 42, 3) := by decide +kernel
theorem dX5_restart_25 : decode cX5_restart 25 = .ok (.aload_n 0, 1) := by decide +kernel
theorem dX5_restart_26 : decode cX5_restart 26 = .ok (.iconst 0, 1) := by decide +kernel
theorem dX5_restart_27 : decode cX5_restart 27 = .ok (.putfield 45, 3) := by decide +kernel
theorem dX5_restart_30 : decode cX5_restart 30 = .ok (.return_, 1) := by decide +kernel
theorem dX5_advance_0 : decode cX5_advance 0 = .ok (.aload_n 0, 1) := by decide +kernel
theorem dX5_advance_1 : decode cX5_advance 1 = .ok (.getfield 45, 3) := by decide +kernel
theorem dX5_advance_4 : decode cX5_advance 4 = .ok (.aload_n 0, 1) := by decide +kernel
theorem dX5_advance_5 : decode cX5_advance 5 = .ok (.getfield 42, 3) := by decide +kernel
theorem dX5_advance_8 : decode cX5_advance 8 = .ok (.if_icmp .lt 7, 3) := by decide +kernel
theorem dX5_advance_11 : decode cX5_advance 11 = .ok (.aload_n 0, 1) := by decide +kernel
theorem dX5_advance_12 : decode cX5_advance 12 = .ok (.invokevirtual 48, 3) := by decide +kernel
theorem dX5_advance_15 : decode cX5_advance 15 = .ok (.aload_n 0, 1) := by decide +kernel
theorem dX5_advance_16 : decode cX5_advance 16 = .ok (.getfield 45, 3) := by decide +kernel
theorem dX5_advance_19 : decode cX5_advance 19 = .ok (.aload_n 0, 1) := by decide +kernel
theorem dX5_advance_20 : decode cX5_advance 20 = .ok (.getfield 42, 3) := by decide +kernel
theorem dX5_advance_23 : decode cX5_advance 23 = .ok (.if_icmp .lt 5, 3) := by decide +kernel
theorem dX5_advance_26 : decode cX5_advance 26 = .ok (.iconst 0, 1) := by decide +kernel
theorem dX5_advance_27 : decode cX5_advance 27 = .ok (.ireturn, 1) := by decide +kernel
theorem dX5_advance_28 : decode cX5_advance 28 = .ok (.aload_n 0, 1) := by decide +kernel
theorem dX5_advance_29 : decode cX5_advance 29 = .ok (.aload_n 0, 1) := by decide +kernel
theorem dX5_advance_30 : decode cX5_advance 30 = .ok (.getfield 11, 3) := by decide +kernel
theorem dX5_advance_33 : decode cX5_advance 33 = .ok (.aload_n 0, 1) := by decide +kernel
theorem dX5_advance_34 : decode cX5_advance 34 = .ok (.getfield 45, 3) := by decide +kernel
theorem dX5_advance_37 : decode cX5_advance 37 = .ok (.invokestatic 51, 3) := by decide +kernel
theorem dX5_advance_40 : decode cX5_advance 40 = .ok (.putfield 38, 3) := by decide +kernel
theorem dX5_advance_43 : decode cX5_advance 43 = .ok (.aload_n 0, 1) := by decide +kernel
theorem dX5_advance_44 : decode cX5_advance 44 = .ok (.dup, 1) := by decide +kernel
theorem dX5_advance_45 : decode cX5_advance 45 = .ok (.getfield 45, 3) := by decide +kernel
theorem dX5_advance_48 : decode cX5_advance 48 = .ok (.iconst 1, 1) := by decide +kernel
theorem dX5_advance_49 : decode cX5_advance 49 = .ok (.iadd, 1) := by decide +kernel
theorem dX5_advance_50 : decode cX5_advance 50 = .ok (.putfield 45, 3) := by decide +kernel
theorem dX5_advance_53 : decode cX5_advance 53 = .ok (.aload_n 0, 1) := by decide +kernel
theorem dX5_advance_54 : decode cX5_advance 54 = .ok (.dup, 1) := by decide +kernel
theorem dX5_advance_55 : decode cX5_advance 55 = .ok (.getfield 35, 3) := by decide +kernel
theorem dX5_advance_58 : decode cX5_advance 58 = .ok (.iconst 1, 1) := by decide +kernel
theorem dX5_advance_59 : decode cX5_advance 59 = .ok (.iadd, 1) := by decide +kernel
theorem dX5_advance_60 : decode cX5_advance 60 = .ok (.putfield 35, 3) := by decide +kernel
theorem dX5_advance_63 : decode cX5_advance 63 = .ok (.iconst 1, 1) := by decide +kernel
theorem dX5_advance_64 : decode cX5_advance 64 = .ok (.ireturn, 1) := by decide +kernel
theorem dX5_turnPage_0 : decode cX5_turnPage 0 = .ok (.aload_n 0, 1) := by decide +kernel
theorem dX5_turnPage_1 : decode cX5_turnPage 1 = .ok (.iconst 0, 1) := by decide +kernel
theorem dX5_turnPage_2 : decode cX5_turnPage 2 = .ok (.putfield 42, 3) := by decide +kernel
theorem dX5_turnPage_5 : decode cX5_turnPage 5 = .ok (.aload_n 0, 1) := by decide +kernel
theorem dX5_turnPage_6 : decode cX5_turnPage 6 = .ok (.iconst 0, 1) := by decide +kernel
theorem dX5_turnPage_7 : decode cX5_turnPage 7 = .ok (.putfield 45, 3) := by decide +kernel
theorem dX5_turnPage_10 : decode cX5_turnPage 10 = .ok (.aload_n 0, 1) := by decide +kernel
theorem dX5_turnPage_11 : decode cX5_turnPage 11 = .ok (.getfield 24, 3) := by decide +kernel
theorem dX5_turnPage_14 : decode cX5_turnPage 14 = .ok (.aload_n 0, 1) := by decide +kernel
theorem dX5_turnPage_15 : decode cX5_turnPage 15 = .ok (.getfield 32, 3) := by decide +kernel
theorem dX5_turnPage_18 : decode cX5_turnPage 18 = .ok (.invokevirtual 55, 3) := by decide +kernel
theorem dX5_turnPage_21 : decode cX5_turnPage 21 = .ok (.aload_n 0, 1) := by decide +kernel
theorem dX5_turnPage_22 : decode cX5_turnPage 22 = .ok (.aload_n 0, 1) := by decide +kernel
theorem dX5_turnPage_23 : decode cX5_turnPage 23 = .ok (.getfield 28, 3) := by decide +kernel
theorem dX5_turnPage_26 : decode cX5_turnPage 26 = .ok (.iconst 1, 1) := by decide +kernel
theorem dX5_turnPage_27 : decode cX5_turnPage 27 = .ok (.aload_n 0, 1) := by decide +kernel
theorem dX5_turnPage_28 : decode cX5_turnPage 28 = .ok (.getfield 28, 3) := by decide +kernel
theorem dX5_turnPage_31 : decode cX5_turnPage 31 = .ok (.ishl, 1) := by decide +kernel
theorem dX5_turnPage_32 : decode cX5_turnPage 32 = .ok (.lconst 0, 1) := by decide +kernel
theorem dX5_turnPage_33 : decode cX5_turnPage 33 = .ok (.iconst 0, 1) := by decide +kernel
theorem dX5_turnPage_34 : decode cX5_turnPage 34 = .ok (.invokestatic 59, 3) := by decide +kernel
theorem dX5_turnPage_37 : decode cX5_turnPage 37 = .ok (.return_, 1) := by decide +kernel
theorem dX5_explore_0 : decode cX5_explore 0 = .ok (.iload 5, 2) := by decide +kernel
theorem dX5_explore_2 : decode cX5_explore 2 = .ok (.bipush 9, 2) := by decide +kernel
theorem dX5_explore_4 : decode cX5_explore 4 = .ok (.if_icmp .lt 4, 3) := by decide +kernel
theorem dX5_explore_7 : decode cX5_explore 7 = .ok (.return_, 1) := by decide +kernel
theorem dX5_explore_8 : decode cX5_explore 8 = .ok (.aload_n 0, 1) := by decide +kernel
theorem dX5_explore_9 : decode cX5_explore 9 = .ok (.getfield 15, 3) := by decide +kernel
theorem dX5_explore_12 : decode cX5_explore 12 = .ok (.astore 6, 2) := by decide +kernel
theorem dX5_explore_14 : decode cX5_explore 14 = .ok (.aload 6, 2) := by decide +kernel
theorem dX5_explore_16 : decode cX5_explore 16 = .ok (.iload_n 1, 1) := by decide +kernel
theorem dX5_explore_17 : decode cX5_explore 17 = .ok (.invokevirtual 63, 3) := by decide +kernel
theorem dX5_explore_20 : decode cX5_explore 20 = .ok (.istore 7, 2) := by decide +kernel
theorem dX5_explore_22 : decode cX5_explore 22 = .ok (.iload 7, 2) := by decide +kernel
theorem dX5_explore_24 : decode cX5_explore 24 = .ok (.aload 6, 2) := by decide +kernel
theorem dX5_explore_26 : decode cX5_explore 26 = .ok (.iload_n 1, 1) := by decide +kernel
theorem dX5_explore_27 : decode cX5_explore 27 = .ok (.invokevirtual 69, 3) := by decide +kernel
theorem dX5_explore_30 : decode cX5_explore 30 = .ok (.if_icmp .ge 109, 3) := by decide +kernel
theorem dX5_explore_33 : decode cX5_explore 33 = .ok (.aload 6, 2) := by decide +kernel
theorem dX5_explore_35 : decode cX5_explore 35 = .ok (.iload 7, 2) := by decide +kernel
theorem dX5_explore_37 : decode cX5_explore 37 = .ok (.invokevirtual 72, 3) := by decide +kernel
theorem dX5_explore_40 : decode cX5_explore 40 = .ok (.istore 8, 2) := by decide +kernel
theorem dX5_explore_42 : decode cX5_explore 42 = .ok (.aload 6, 2) := by decide +kernel
theorem dX5_explore_44 : decode cX5_explore 44 = .ok (.iload 8, 2) := by decide +kernel
theorem dX5_explore_46 : decode cX5_explore 46 = .ok (.invokevirtual 75, 3) := by decide +kernel
theorem dX5_explore_49 : decode cX5_explore 49 = .ok (.istore 9, 2) := by decide +kernel
theorem dX5_explore_51 : decode cX5_explore 51 = .ok (.lload_n 3, 1) := by decide +kernel
theorem dX5_explore_52 : decode cX5_explore 52 = .ok (.aload 6, 2) := by decide +kernel
theorem dX5_explore_54 : decode cX5_explore 54 = .ok (.iload 8, 2) := by decide +kernel
theorem dX5_explore_56 : decode cX5_explore 56 = .ok (.invokevirtual 78, 3) := by decide +kernel
theorem dX5_explore_59 : decode cX5_explore 59 = .ok (.invokestatic 81, 3) := by decide +kernel
theorem dX5_explore_62 : decode cX5_explore 62 = .ok (.ladd, 1) := by decide +kernel
theorem dX5_explore_63 : decode cX5_explore 63 = .ok (.iload 8, 2) := by decide +kernel
theorem dX5_explore_65 : decode cX5_explore 65 = .ok (.i2l, 1) := by decide +kernel
theorem dX5_explore_66 : decode cX5_explore 66 = .ok (.lconst 1, 1) := by decide +kernel
theorem dX5_explore_67 : decode cX5_explore 67 = .ok (.ladd, 1) := by decide +kernel
theorem dX5_explore_68 : decode cX5_explore 68 = .ok (.iload 5, 2) := by decide +kernel
theorem dX5_explore_70 : decode cX5_explore 70 = .ok (.invokestatic 85, 3) := by decide +kernel
theorem dX5_explore_73 : decode cX5_explore 73 = .ok (.lshl, 1) := by decide +kernel
theorem dX5_explore_74 : decode cX5_explore 74 = .ok (.ladd, 1) := by decide +kernel
theorem dX5_explore_75 : decode cX5_explore 75 = .ok (.lstore 10, 2) := by decide +kernel
theorem dX5_explore_77 : decode cX5_explore 77 = .ok (.iload 9, 2) := by decide +kernel
theorem dX5_explore_79 : decode cX5_explore 79 = .ok (.aload_n 0, 1) := by decide +kernel
theorem dX5_explore_80 : decode cX5_explore 80 = .ok (.getfield 32, 3) := by decide +kernel
theorem dX5_explore_83 : decode cX5_explore 83 = .ok (.if_icmp .ne 12, 3) := by decide +kernel
theorem dX5_explore_86 : decode cX5_explore 86 = .ok (.aload_n 0, 1) := by decide +kernel
theorem dX5_explore_87 : decode cX5_explore 87 = .ok (.lload 10, 2) := by decide +kernel
theorem dX5_explore_89 : decode cX5_explore 89 = .ok (.invokevirtual 88, 3) := by decide +kernel
theorem dX5_explore_92 : decode cX5_explore 92 = .ok (.goto 41, 3) := by decide +kernel
theorem dX5_explore_95 : decode cX5_explore 95 = .ok (.iload_n 2, 1) := by decide +kernel
theorem dX5_explore_96 : decode cX5_explore 96 = .ok (.iload 9, 2) := by decide +kernel
theorem dX5_explore_98 : decode cX5_explore 98 = .ok (.invokestatic 92, 3) := by decide +kernel
theorem dX5_explore_101 : decode cX5_explore 101 = .ok (.ifCond .ne 32, 3) := by decide +kernel
theorem dX5_explore_104 : decode cX5_explore 104 = .ok (.aload_n 0, 1) := by decide +kernel
theorem dX5_explore_105 : decode cX5_explore 105 = .ok (.iload 9, 2) := by decide +kernel
theorem dX5_explore_107 : decode cX5_explore 107 = .ok (.lload 10, 2) := by decide +kernel
theorem dX5_explore_109 : decode cX5_explore 109 = .ok (.invokevirtual 96, 3) := by decide +kernel
theorem dX5_explore_112 : decode cX5_explore 112 = .ok (.ifCond .eq 21, 3) := by decide +kernel
theorem dX5_explore_115 : decode cX5_explore 115 = .ok (.aload_n 0, 1) := by decide +kernel
theorem dX5_explore_116 : decode cX5_explore 116 = .ok (.iload 9, 2) := by decide +kernel
theorem dX5_explore_118 : decode cX5_explore 118 = .ok (.iload_n 2, 1) := by decide +kernel
theorem dX5_explore_119 : decode cX5_explore 119 = .ok (.iconst 1, 1) := by decide +kernel
theorem dX5_explore_120 : decode cX5_explore 120 = .ok (.iload 9, 2) := by decide +kernel
theorem dX5_explore_122 : decode cX5_explore 122 = .ok (.ishl, 1) := by decide +kernel
theorem dX5_explore_123 : decode cX5_explore 123 = .ok (.ior, 1) := by decide +kernel
theorem dX5_explore_124 : decode cX5_explore 124 = .ok (.lload 10, 2) := by decide +kernel
theorem dX5_explore_126 : decode cX5_explore 126 = .ok (.iload 5, 2) := by decide +kernel
theorem dX5_explore_128 : decode cX5_explore 128 = .ok (.iconst 1, 1) := by decide +kernel
theorem dX5_explore_129 : decode cX5_explore 129 = .ok (.iadd, 1) := by decide +kernel
theorem dX5_explore_130 : decode cX5_explore 130 = .ok (.invokestatic 59, 3) := by decide +kernel
theorem dX5_explore_133 : decode cX5_explore 133 = .ok (.iinc 7 1, 3) := by decide +kernel
theorem dX5_explore_136 : decode cX5_explore 136 = .ok (.goto (-114), 3) := by decide +kernel
theorem dX5_explore_139 : decode cX5_explore 139 = .ok (.return_, 1) := by decide +kernel
theorem dX5_leadsOn_0 : decode cX5_leadsOn 0 = .ok (.aload_n 0, 1) := by decide +kernel
theorem dX5_leadsOn_1 : decode cX5_leadsOn 1 = .ok (.getfield 24, 3) := by decide +kernel
theorem dX5_leadsOn_4 : decode cX5_leadsOn 4 = .ok (.iload_n 1, 1) := by decide +kernel
theorem dX5_leadsOn_5 : decode cX5_leadsOn 5 = .ok (.invokevirtual 100, 3) := by decide +kernel
theorem dX5_leadsOn_8 : decode cX5_leadsOn 8 = .ok (.istore 4, 2) := by decide +kernel
theorem dX5_leadsOn_10 : decode cX5_leadsOn 10 = .ok (.iload 4, 2) := by decide +kernel
theorem dX5_leadsOn_12 : decode cX5_leadsOn 12 = .ok (.ldc 103, 2) := by decide +kernel
theorem dX5_leadsOn_14 : decode cX5_leadsOn 14 = .ok (.if_icmp .ge 21, 3) := by decide +kernel
theorem dX5_leadsOn_17 : decode cX5_leadsOn 17 = .ok (.aload_n 0, 1) := by decide +kernel
theorem dX5_leadsOn_18 : decode cX5_leadsOn 18 = .ok (.lload_n 2, 1) := by decide +kernel
theorem dX5_leadsOn_19 : decode cX5_leadsOn 19 = .ok (.iload 4, 2) := by decide +kernel
theorem dX5_leadsOn_21 : decode cX5_leadsOn 21 = .ok (.invokestatic 81, 3) := by decide +kernel
theorem dX5_leadsOn_24 : decode cX5_leadsOn 24 = .ok (.ladd, 1) := by decide +kernel
theorem dX5_leadsOn_25 : decode cX5_leadsOn 25 = .ok (.invokevirtual 104, 3) := by decide +kernel
theorem dX5_leadsOn_28 : decode cX5_leadsOn 28 = .ok (.ifCond .eq 7, 3) := by decide +kernel
theorem dX5_leadsOn_31 : decode cX5_leadsOn 31 = .ok (.iconst 1, 1) := by decide +kernel
theorem dX5_leadsOn_32 : decode cX5_leadsOn 32 = .ok (.goto 4, 3) := by decide +kernel
theorem dX5_leadsOn_35 : decode cX5_leadsOn 35 = .ok (.iconst 0, 1) := by decide +kernel
theorem dX5_leadsOn_36 : decode cX5_leadsOn 36 = .ok (.ireturn, 1) := by decide +kernel
theorem dX5_fits_0 : decode cX5_fits 0 = .ok (.aload_n 0, 1) := by decide +kernel
theorem dX5_fits_1 : decode cX5_fits 1 = .ok (.getfield 42, 3) := by decide +kernel
theorem dX5_fits_4 : decode cX5_fits 4 = .ok (.bipush 16, 2) := by decide +kernel
theorem dX5_fits_6 : decode cX5_fits 6 = .ok (.if_icmp .lt 17, 3) := by decide +kernel
theorem dX5_fits_9 : decode cX5_fits 9 = .ok (.lload_n 1, 1) := by decide +kernel
theorem dX5_fits_10 : decode cX5_fits 10 = .ok (.aload_n 0, 1) := by decide +kernel
theorem dX5_fits_11 : decode cX5_fits 11 = .ok (.getfield 11, 3) := by decide +kernel
theorem dX5_fits_14 : decode cX5_fits 14 = .ok (.bipush 15, 2) := by decide +kernel
theorem dX5_fits_16 : decode cX5_fits 16 = .ok (.invokestatic 51, 3) := by decide +kernel
theorem dX5_fits_19 : decode cX5_fits 19 = .ok (.lcmp, 1) := by decide +kernel
theorem dX5_fits_20 : decode cX5_fits 20 = .ok (.ifCond .ge 7, 3) := by decide +kernel
theorem dX5_fits_23 : decode cX5_fits 23 = .ok (.iconst 1, 1) := by decide +kernel
theorem dX5_fits_24 : decode cX5_fits 24 = .ok (.goto 4, 3) := by decide +kernel
theorem dX5_fits_27 : decode cX5_fits 27 = .ok (.iconst 0, 1) := by decide +kernel
theorem dX5_fits_28 : decode cX5_fits 28 = .ok (.ireturn, 1) := by decide +kernel
theorem dX5_keep_0 : decode cX5_keep 0 = .ok (.lload_n 1, 1) := by decide +kernel
theorem dX5_keep_1 : decode cX5_keep 1 = .ok (.aload_n 0, 1) := by decide +kernel
theorem dX5_keep_2 : decode cX5_keep 2 = .ok (.getfield 38, 3) := by decide +kernel
theorem dX5_keep_5 : decode cX5_keep 5 = .ok (.lcmp, 1) := by decide +kernel
theorem dX5_keep_6 : decode cX5_keep 6 = .ok (.ifCond .le 11, 3) := by decide +kernel
theorem dX5_keep_9 : decode cX5_keep 9 = .ok (.aload_n 0, 1) := by decide +kernel
theorem dX5_keep_10 : decode cX5_keep 10 = .ok (.lload_n 1, 1) := by decide +kernel
theorem dX5_keep_11 : decode cX5_keep 11 = .ok (.invokevirtual 104, 3) := by decide +kernel
theorem dX5_keep_14 : decode cX5_keep 14 = .ok (.ifCond .ne 4, 3) := by decide +kernel
theorem dX5_keep_17 : decode cX5_keep 17 = .ok (.return_, 1) := by decide +kernel
theorem dX5_keep_18 : decode cX5_keep 18 = .ok (.aload_n 0, 1) := by decide +kernel
theorem dX5_keep_19 : decode cX5_keep 19 = .ok (.getfield 42, 3) := by decide +kernel
theorem dX5_keep_22 : decode cX5_keep 22 = .ok (.bipush 15, 2) := by decide +kernel
theorem dX5_keep_24 : decode cX5_keep 24 = .ok (.invokestatic 108, 3) := by decide +kernel
theorem dX5_keep_27 : decode cX5_keep 27 = .ok (.istore_n 3, 1) := by decide +kernel
theorem dX5_keep_28 : decode cX5_keep 28 = .ok (.iload_n 3, 1) := by decide +kernel
theorem dX5_keep_29 : decode cX5_keep 29 = .ok (.ifCond .le 42, 3) := by decide +kernel
theorem dX5_keep_32 : decode cX5_keep 32 = .ok (.aload_n 0, 1) := by decide +kernel
theorem dX5_keep_33 : decode cX5_keep 33 = .ok (.getfield 11, 3) := by decide +kernel
theorem dX5_keep_36 : decode cX5_keep 36 = .ok (.iload_n 3, 1) := by decide +kernel
theorem dX5_keep_37 : decode cX5_keep 37 = .ok (.iconst 1, 1) := by decide +kernel
theorem dX5_keep_38 : decode cX5_keep 38 = .ok (.isub, 1) := by decide +kernel
theorem dX5_keep_39 : decode cX5_keep 39 = .ok (.invokestatic 51, 3) := by decide +kernel
theorem dX5_keep_42 : decode cX5_keep 42 = .ok (.lload_n 1, 1) := by decide +kernel
theorem dX5_keep_43 : decode cX5_keep 43 = .ok (.lcmp, 1) := by decide +kernel
theorem dX5_keep_44 : decode cX5_keep 44 = .ok (.ifCond .le 27, 3) := by decide +kernel
theorem dX5_keep_47 : decode cX5_keep 47 = .ok (.aload_n 0, 1) := by decide +kernel
theorem dX5_keep_48 : decode cX5_keep 48 = .ok (.getfield 11, 3) := by decide +kernel
theorem dX5_keep_51 : decode cX5_keep 51 = .ok (.iload_n 3, 1) := by decide +kernel
theorem dX5_keep_52 : decode cX5_keep 52 = .ok (.aload_n 0, 1) := by decide +kernel
theorem dX5_keep_53 : decode cX5_keep 53 = .ok (.getfield 11, 3) := by decide +kernel
theorem dX5_keep_56 : decode cX5_keep 56 = .ok (.iload_n 3, 1) := by decide +kernel
theorem dX5_keep_57 : decode cX5_keep 57 = .ok (.iconst 1, 1) := by decide +kernel
theorem dX5_keep_58 : decode cX5_keep 58 = .ok (.isub, 1) := by decide +kernel
theorem dX5_keep_59 : decode cX5_keep 59 = .ok (.invokestatic 51, 3) := by decide +kernel
theorem dX5_keep_62 : decode cX5_keep 62 = .ok (.invokestatic 114, 3) := by decide +kernel
theorem dX5_keep_65 : decode cX5_keep 65 = .ok (.iinc 3 (-1), 3) := by decide +kernel
theorem dX5_keep_68 : decode cX5_keep 68 = .ok (.goto (-40), 3) := by decide +kernel
theorem dX5_keep_71 : decode cX5_keep 71 = .ok (.aload_n 0, 1) := by decide +kernel
theorem dX5_keep_72 : decode cX5_keep 72 = .ok (.getfield 11, 3) := by decide +kernel
theorem dX5_keep_75 : decode cX5_keep 75 = .ok (.iload_n 3, 1) := by decide +kernel
theorem dX5_keep_76 : decode cX5_keep 76 = .ok (.lload_n 1, 1) := by decide +kernel
theorem dX5_keep_77 : decode cX5_keep 77 = .ok (.invokestatic 114, 3) := by decide +kernel
theorem dX5_keep_80 : decode cX5_keep 80 = .ok (.aload_n 0, 1) := by decide +kernel
theorem dX5_keep_81 : decode cX5_keep 81 = .ok (.aload_n 0, 1) := by decide +kernel
theorem dX5_keep_82 : decode cX5_keep 82 = .ok (.getfield 42, 3) := by decide +kernel
theorem dX5_keep_85 : decode cX5_keep 85 = .ok (.iconst 1, 1) := by decide +kernel
theorem dX5_keep_86 : decode cX5_keep 86 = .ok (.iadd, 1) := by decide +kernel
theorem dX5_keep_87 : decode cX5_keep 87 = .ok (.bipush 16, 2) := by decide +kernel
theorem dX5_keep_89 : decode cX5_keep 89 = .ok (.invokestatic 108, 3) := by decide +kernel
theorem dX5_keep_92 : decode cX5_keep 92 = .ok (.putfield 42, 3) := by decide +kernel
theorem dX5_keep_95 : decode cX5_keep 95 = .ok (.return_, 1) := by decide +kernel
theorem dX5_ofLength_0 : decode cX5_ofLength 0 = .ok (.iload_n 0, 1) := by decide +kernel
theorem dX5_ofLength_1 : decode cX5_ofLength 1 = .ok (.i2l, 1) := by decide +kernel
theorem dX5_ofLength_2 : decode cX5_ofLength 2 = .ok (.bipush 45, 2) := by decide +kernel
theorem dX5_ofLength_4 : decode cX5_ofLength 4 = .ok (.lshl, 1) := by decide +kernel
theorem dX5_ofLength_5 : decode cX5_ofLength 5 = .ok (.lreturn, 1) := by decide +kernel
theorem dX5_slotShift_0 : decode cX5_slotShift 0 = .ok (.bipush 8, 2) := by decide +kernel
theorem dX5_slotShift_2 : decode cX5_slotShift 2 = .ok (.iload_n 0, 1) := by decide +kernel
theorem dX5_slotShift_3 : decode cX5_slotShift 3 = .ok (.isub, 1) := by decide +kernel
theorem dX5_slotShift_4 : decode cX5_slotShift 4 = .ok (.iconst 5, 1) := by decide +kernel
theorem dX5_slotShift_5 : decode cX5_slotShift 5 = .ok (.imul, 1) := by decide +kernel
theorem dX5_slotShift_6 : decode cX5_slotShift 6 = .ok (.ireturn, 1) := by decide +kernel
theorem dX5_drawnTotal_0 : decode cX5_drawnTotal 0 = .ok (.aload_n 0, 1) := by decide +kernel
theorem dX5_drawnTotal_1 : decode cX5_drawnTotal 1 = .ok (.getfield 35, 3) := by decide +kernel
theorem dX5_drawnTotal_4 : decode cX5_drawnTotal 4 = .ok (.ireturn, 1) := by decide +kernel
theorem dX5_currentLength_0 : decode cX5_currentLength 0 = .ok (.aload_n 0, 1) := by decide +kernel
theorem dX5_currentLength_1 : decode cX5_currentLength 1 = .ok (.getfield 38, 3) := by decide +kernel
theorem dX5_currentLength_4 : decode cX5_currentLength 4 = .ok (.bipush 45, 2) := by decide +kernel
theorem dX5_currentLength_6 : decode cX5_currentLength 6 = .ok (.lushr, 1) := by decide +kernel
theorem dX5_currentLength_7 : decode cX5_currentLength 7 = .ok (.l2i, 1) := by decide +kernel
theorem dX5_currentLength_8 : decode cX5_currentLength 8 = .ok (.ireturn, 1) := by decide +kernel
theorem dX5_currentEdge_0 : decode cX5_currentEdge 0 = .ok (.iload_n 1, 1) := by decide +kernel
theorem dX5_currentEdge_1 : decode cX5_currentEdge 1 = .ok (.ifCond .lt 9, 3) := by decide +kernel
theorem dX5_currentEdge_4 : decode cX5_currentEdge 4 = .ok (.iload_n 1, 1) := by decide +kernel
theorem dX5_currentEdge_5 : decode cX5_currentEdge 5 = .ok (.bipush 9, 2) := by decide +kernel
theorem dX5_currentEdge_7 : decode cX5_currentEdge 7 = .ok (.if_icmp .lt 5, 3) := by decide +kernel
theorem dX5_currentEdge_10 : decode cX5_currentEdge 10 = .ok (.iconst (-1), 1) := by decide +kernel
theorem dX5_currentEdge_11 : decode cX5_currentEdge 11 = .ok (.ireturn, 1) := by decide +kernel
theorem dX5_currentEdge_12 : decode cX5_currentEdge 12 = .ok (.aload_n 0, 1) := by decide +kernel
theorem dX5_currentEdge_13 : decode cX5_currentEdge 13 = .ok (.getfield 38, 3) := by decide +kernel
theorem dX5_currentEdge_16 : decode cX5_currentEdge 16 = .ok (.iload_n 1, 1) := by decide +kernel
theorem dX5_currentEdge_17 : decode cX5_currentEdge 17 = .ok (.invokestatic 85, 3) := by decide +kernel
theorem dX5_currentEdge_20 : decode cX5_currentEdge 20 = .ok (.lushr, 1) := by decide +kernel
theorem dX5_currentEdge_21 : decode cX5_currentEdge 21 = .ok (.ldc2_w 118, 3) := by decide +kernel
theorem dX5_currentEdge_24 : decode cX5_currentEdge 24 = .ok (.land, 1) := by decide +kernel
theorem dX5_currentEdge_25 : decode cX5_currentEdge 25 = .ok (.l2i, 1) := by decide +kernel
theorem dX5_currentEdge_26 : decode cX5_currentEdge 26 = .ok (.iconst 1, 1) := by decide +kernel
theorem dX5_currentEdge_27 : decode cX5_currentEdge 27 = .ok (.isub, 1) := by decide +kernel
theorem dX5_currentEdge_28 : decode cX5_currentEdge 28 = .ok (.ireturn, 1) := by decide +kernel
theorem dX5_currentSize_0 : decode cX5_currentSize 0 = .ok (.iconst 0, 1) := by decide +kernel
theorem dX5_currentSize_1 : decode cX5_currentSize 1 = .ok (.istore_n 1, 1) := by decide +kernel
theorem dX5_currentSize_2 : decode cX5_currentSize 2 = .ok (.iload_n 1, 1) := by decide +kernel
theorem dX5_currentSize_3 : decode cX5_currentSize 3 = .ok (.bipush 9, 2) := by decide +kernel
theorem dX5_currentSize_5 : decode cX5_currentSize 5 = .ok (.if_icmp .ge 18, 3) := by decide +kernel
theorem dX5_currentSize_8 : decode cX5_currentSize 8 = .ok (.aload_n 0, 1) := by decide +kernel
theorem dX5_currentSize_9 : decode cX5_currentSize 9 = .ok (.iload_n 1, 1) := by decide +kernel
theorem dX5_currentSize_10 : decode cX5_currentSize 10 = .ok (.invokevirtual 120, 3) := by decide +kernel
theorem dX5_currentSize_13 : decode cX5_currentSize 13 = .ok (.iconst (-1), 1) := by decide +kernel
theorem dX5_currentSize_14 : decode cX5_currentSize 14 = .ok (.if_icmp .eq 9, 3) := by decide +kernel
theorem dX5_currentSize_17 : decode cX5_currentSize 17 = .ok (.iinc 1 1, 3) := by decide +kernel
theorem dX5_currentSize_20 : decode cX5_currentSize 20 = .ok (.goto (-18), 3) := by decide +kernel
theorem dX5_currentSize_23 : decode cX5_currentSize 23 = .ok (.iload_n 1, 1) := by decide +kernel
theorem dX5_currentSize_24 : decode cX5_currentSize 24 = .ok (.ireturn, 1) := by decide +kernel
theorem dX6_init_0 : decode cX6_init 0 = .ok (.aload_n 0, 1) := by decide +kernel
theorem dX6_init_1 : decode cX6_init 1 = .ok (.invokespecial 3, 3) := by decide +kernel
theorem dX6_init_4 : decode cX6_init 4 = .ok (.aload_n 0, 1) := by decide +kernel
theorem dX6_init_5 : decode cX6_init 5 = .ok (.sipush 500, 3) := by decide +kernel
theorem dX6_init_8 : decode cX6_init 8 = .ok (.newarray .int, 2) := by decide +kernel
theorem dX6_init_10 : decode cX6_init 10 = .ok (.putfield 11, 3) := by decide +kernel
theorem dX6_init_13 : decode cX6_init 13 = .ok (.aload_n 0, 1) := by decide +kernel
theorem dX6_init_14 : decode cX6_init 14 = .ok (.sipush 500, 3) := by decide +kernel
theorem dX6_init_17 : decode cX6_init 17 = .ok (.newarray .int, 2) := by decide +kernel
theorem dX6_init_19 : decode cX6_init 19 = .ok (.putfield 15, 3) := by decide +kernel
theorem dX6_init_22 : decode cX6_init 22 = .ok (.aload_n 0, 1) := by decide +kernel
theorem dX6_init_23 : decode cX6_init 23 = .ok (.sipush 500, 3) := by decide +kernel
theorem dX6_init_26 : decode cX6_init 26 = .ok (.newarray .int, 2) := by decide +kernel
theorem dX6_init_28 : decode cX6_init 28 = .ok (.putfield 18, 3) := by decide +kernel
theorem dX6_init_31 : decode cX6_init 31 = .ok (.aload_n 0, 1) := by decide +kernel
theorem dX6_init_32 : decode cX6_init 32 = .ok (.sipush 500, 3) := by decide +kernel
theorem dX6_init_35 : decode cX6_init 35 = .ok (.newarray .int, 2) := by decide +kernel
theorem dX6_init_37 : decode cX6_init 37 = .ok (.putfield 21, 3) := by decide +kernel
theorem dX6_init_40 : decode cX6_init 40 = .ok (.aload_n 0, 1) := by decide +kernel
theorem dX6_init_41 : decode cX6_init 41 = .ok (.bipush 10, 2) := by decide +kernel
theorem dX6_init_43 : decode cX6_init 43 = .ok (.newarray .int, 2) := by decide +kernel
theorem dX6_init_45 : decode cX6_init 45 = .ok (.putfield 24, 3) := by decide +kernel
theorem dX6_init_48 : decode cX6_init 48 = .ok (.aload_n 0, 1) := by decide +kernel
theorem dX6_init_49 : decode cX6_init 49 = .ok (.bipush 24, 2) := by decide +kernel
theorem dX6_init_51 : decode cX6_init 51 = .ok (.newarray .int, 2) := by decide +kernel
theorem dX6_init_53 : decode cX6_init 53 = .ok (.putfield 27, 3) := by decide +kernel
theorem dX6_init_56 : decode cX6_init 56 = .ok (.aload_n 0, 1) := by decide +kernel
theorem dX6_init_57 : decode cX6_init 57 = .ok (.aload_n 1, 1) := by decide +kernel
theorem dX6_init_58 : decode cX6_init 58 = .ok (.putfield 30, 3) := by decide +kernel
theorem dX6_init_61 : decode cX6_init 61 = .ok (.return_, 1) := by decide +kernel
theorem dX6_restart_0 : decode cX6_restart 0 = .ok (.aload_n 0, 1) := by decide +kernel
theorem dX6_restart_1 : decode cX6_restart 1 = .ok (.iload_n 1, 1) := by decide +kernel
theorem dX6_restart_2 : decode cX6_restart 2 = .ok (.putfield 34, 3) := by decide +kernel
theorem dX6_restart_5 : decode cX6_restart 5 = .ok (.aload_n 0, 1) := by decide +kernel
theorem dX6_restart_6 : decode cX6_restart 6 = .ok (.iconst 0, 1) := by decide +kernel
theorem dX6_restart_7 : decode cX6_restart 7 = .ok (.putfield 38, 3) := by decide +kernel
theorem dX6_restart_10 : decode cX6_restart 10 = .ok (.aload_n 0, 1) := by decide +kernel
theorem dX6_restart_11 : decode cX6_restart 11 = .ok (.getfield 24, 3) := by decide +kernel
theorem dX6_restart_14 : decode cX6_restart 14 = .ok (.iconst 0, 1) := by decide +kernel
theorem dX6_restart_15 : decode cX6_restart 15 = .ok (.invokestatic 41, 3) := by decide +kernel
theorem dX6_restart_18 : decode cX6_restart 18 = .ok (.aload_n 0, 1) := by decide +kernel
theorem dX6_restart_19 : decode cX6_restart 19 = .ok (.getfield 27, 3) := by decide +kernel
theorem dX6_restart_22 : decode cX6_restart 22 = .ok (.iconst 0, 1) := by decide +kernel
theorem dX6_restart_23 : decode cX6_restart 23 = .ok (.invokestatic 41, 3) := by decide +kernel
theorem dX6_restart_26 : decode cX6_restart 26 = .ok (.aload_n 0, 1) := by decide +kernel
theorem dX6_restart_27 : decode cX6_restart 27 = .ok (.iload_n 2, 1) := by decide +kernel
theorem dX6_restart_28 : decode cX6_restart 28 = .ok (.iconst 0, 1) := by decide +kernel
theorem dX6_restart_29 : decode cX6_restart 29 = .ok (.iconst 0, 1) := by decide +kernel
theorem dX6_restart_30 : decode cX6_restart 30 = .ok (.iconst (-1), 1) := by decide +kernel
theorem dX6_restart_31 : decode cX6_restart 31 = .ok (.iconst 0, 1) := by decide +kernel
theorem dX6_restart_32 : decode cX6_restart 32 = .ok (.invokevirtual 47, 3) := by decide +kernel
theorem dX6_restart_35 : decode cX6_restart 35 = .ok (.return_, 1) := by decide +kernel
theorem dX6_advance_0 : decode cX6_advance 0 = .ok (.iconst 0, 1) := by decide +kernel
theorem dX6_advance_1 : decode cX6_advance 1 = .ok (.istore_n 1, 1) := by decide +kernel
theorem dX6_advance_2 : decode cX6_advance 2 = .ok (.iload_n 1, 1) := by decide +kernel
theorem dX6_advance_3 : decode cX6_advance 3 = .ok (.sipush 500, 3) := by decide +kernel
theorem dX6_advance_6 : decode cX6_advance 6 = .ok (.if_icmp .ge 44, 3) := by decide +kernel
theorem dX6_advance_9 : decode cX6_advance 9 = .ok (.aload_n 0, 1) := by decide +kernel
theorem dX6_advance_10 : decode cX6_advance 10 = .ok (.getfield 24, 3) := by decide +kernel
theorem dX6_advance_13 : decode cX6_advance 13 = .ok (.aload_n 0, 1) := by decide +kernel
theorem dX6_advance_14 : decode cX6_advance 14 = .ok (.getfield 34, 3) := by decide +kernel
theorem dX6_advance_17 : decode cX6_advance 17 = .ok (.invokestatic 51, 3) := by decide +kernel
theorem dX6_advance_20 : decode cX6_advance 20 = .ok (.aload_n 0, 1) := by decide +kernel
theorem dX6_advance_21 : decode cX6_advance 21 = .ok (.getfield 38, 3) := by decide +kernel
theorem dX6_advance_24 : decode cX6_advance 24 = .ok (.if_icmp .gt 26, 3) := by decide +kernel
theorem dX6_advance_27 : decode cX6_advance 27 = .ok (.aload_n 0, 1) := by decide +kernel
theorem dX6_advance_28 : decode cX6_advance 28 = .ok (.invokevirtual 55, 3) := by decide +kernel
theorem dX6_advance_31 : decode cX6_advance 31 = .ok (.istore_n 2, 1) := by decide +kernel
theorem dX6_advance_32 : decode cX6_advance 32 = .ok (.iload_n 2, 1) := by decide +kernel
theorem dX6_advance_33 : decode cX6_advance 33 = .ok (.iconst (-1), 1) := by decide +kernel
theorem dX6_advance_34 : decode cX6_advance 34 = .ok (.if_icmp .ne 5, 3) := by decide +kernel
theorem dX6_advance_37 : decode cX6_advance 37 = .ok (.iconst 0, 1) := by decide +kernel
theorem dX6_advance_38 : decode cX6_advance 38 = .ok (.ireturn, 1) := by decide +kernel
theorem dX6_advance_39 : decode cX6_advance 39 = .ok (.aload_n 0, 1) := by decide +kernel
theorem dX6_advance_40 : decode cX6_advance 40 = .ok (.iload_n 2, 1) := by decide +kernel
theorem dX6_advance_41 : decode cX6_advance 41 = .ok (.invokevirtual 59, 3) := by decide +kernel
theorem dX6_advance_44 : decode cX6_advance 44 = .ok (.iinc 1 1, 3) := by decide +kernel
theorem dX6_advance_47 : decode cX6_advance 47 = .ok (.goto (-45), 3) := by decide +kernel
theorem dX6_advance_50 : decode cX6_advance 50 = .ok (.aload_n 0, 1) := by decide +kernel
theorem dX6_advance_51 : decode cX6_advance 51 = .ok (.dup, 1) := by decide +kernel
theorem dX6_advance_52 : decode cX6_advance 52 = .ok (.getfield 38, 3) := by decide +kernel
theorem dX6_advance_55 : decode cX6_advance 55 = .ok (.iconst 1, 1) := by decide +kernel
theorem dX6_advance_56 : decode cX6_advance 56 = .ok (.iadd, 1) := by decide +kernel
theorem dX6_advance_57 : decode cX6_advance 57 = .ok (.putfield 38, 3) := by decide +kernel
theorem dX6_advance_60 : decode cX6_advance 60 = .ok (.iconst 1, 1) := by decide +kernel
theorem dX6_advance_61 : decode cX6_advance 61 = .ok (.ireturn, 1) := by decide +kernel
theorem dX6_shortestEdge_0 : decode cX6_shortestEdge 0 = .ok (.iconst (-1), 1) := by decide +kernel
theorem dX6_shortestEdge_1 : decode cX6_shortestEdge 1 = .ok (.istore_n 1, 1) := by decide +kernel
theorem dX6_shortestEdge_2 : decode cX6_shortestEdge 2 = .ok (.ldc 63, 2) := by decide +kernel
theorem dX6_shortestEdge_4 : decode cX6_shortestEdge 4 = .ok (.istore_n 2, 1) := by decide +kernel
theorem dX6_shortestEdge_5 : decode cX6_shortestEdge 5 = .ok (.iconst 0, 1) := by decide +kernel
theorem dX6_shortestEdge_6 : decode cX6_shortestEdge 6 = .ok (.istore_n 3, 1) := by decide +kernel
theorem dX6_shortestEdge_7 : decode cX6_shortestEdge 7 = .ok (.iload_n 3, 1) := by decide +kernel
theorem dX6_shortestEdge_8 : decode cX6_shortestEdge 8 = .ok (.aload_n 0, 1) := by decide +kernel
theorem dX6_shortestEdge_9 : decode cX6_shortestEdge 9 = .ok (.getfield 30, 3) := by decide +kernel
theorem dX6_shortestEdge_12 : decode cX6_shortestEdge 12 = .ok (.invokevirtual 64, 3) := by decide +kernel
theorem dX6_shortestEdge_15 : decode cX6_shortestEdge 15 = .ok (.if_icmp .ge 120, 3) := by decide +kernel
theorem dX6_shortestEdge_18 : decode cX6_shortestEdge 18 = .ok (.aload_n 0, 1) := by decide +kernel
theorem dX6_shortestEdge_19 : decode cX6_shortestEdge 19 = .ok (.getfield 30, 3) := by decide +kernel
theorem dX6_shortestEdge_22 : decode cX6_shortestEdge 22 = .ok (.iload_n 3, 1) := by decide +kernel
theorem dX6_shortestEdge_23 : decode cX6_shortestEdge 23 = .ok (.invokevirtual 69, 3) := by decide +kernel
theorem dX6_shortestEdge_26 : decode cX6_shortestEdge 26 = .ok (.istore 4, 2) := by decide +kernel
theorem dX6_shortestEdge_28 : decode cX6_shortestEdge 28 = .ok (.aload_n 0, 1) := by decide +kernel
theorem dX6_shortestEdge_29 : decode cX6_shortestEdge 29 = .ok (.getfield 30, 3) := by decide +kernel
theorem dX6_shortestEdge_32 : decode cX6_shortestEdge 32 = .ok (.iload 4, 2) := by decide +kernel
theorem dX6_shortestEdge_34 : decode cX6_shortestEdge 34 = .ok (.invokevirtual 73, 3) := by decide +kernel
theorem dX6_shortestEdge_37 : decode cX6_shortestEdge 37 = .ok (.istore 5, 2) := by decide +kernel
theorem dX6_shortestEdge_39 : decode cX6_shortestEdge 39 = .ok (.aload_n 0, 1) := by decide +kernel
theorem dX6_shortestEdge_40 : decode cX6_shortestEdge 40 = .ok (.getfield 27, 3) := by decide +kernel
theorem dX6_shortestEdge_43 : decode cX6_shortestEdge 43 = .ok (.iload 4, 2) := by decide +kernel
theorem dX6_shortestEdge_45 : decode cX6_shortestEdge 45 = .ok (.invokestatic 51, 3) := by decide +kernel
theorem dX6_shortestEdge_48 : decode cX6_shortestEdge 48 = .ok (.aload_n 0, 1) := by decide +kernel
theorem dX6_shortestEdge_49 : decode cX6_shortestEdge 49 = .ok (.getfield 24, 3) := by decide +kernel
theorem dX6_shortestEdge_52 : decode cX6_shortestEdge 52 = .ok (.iload 5, 2) := by decide +kernel
theorem dX6_shortestEdge_54 : decode cX6_shortestEdge 54 = .ok (.invokestatic 51, 3) := by decide +kernel
theorem dX6_shortestEdge_57 : decode cX6_shortestEdge 57 = .ok (.if_icmp .ge 72, 3) := by decide +kernel
theorem dX6_shortestEdge_60 : decode cX6_shortestEdge 60 = .ok (.aload_n 0, 1) := by decide +kernel
theorem dX6_shortestEdge_61 : decode cX6_shortestEdge 61 = .ok (.getfield 24, 3) := by decide +kernel
theorem dX6_shortestEdge_64 : decode cX6_shortestEdge 64 = .ok (.aload_n 0, 1) := by decide +kernel
theorem dX6_shortestEdge_65 : decode cX6_shortestEdge 65 = .ok (.getfield 30, 3) := by decide +kernel
theorem dX6_shortestEdge_68 : decode cX6_shortestEdge 68 = .ok (.iload 4, 2) := by decide +kernel
theorem dX6_shortestEdge_70 : decode cX6_shortestEdge 70 = .ok (.invokevirtual 76, 3) := by decide +kernel
theorem dX6_shortestEdge_73 : decode cX6_shortestEdge 73 = .ok (.invokestatic 51, 3) := by decide +kernel
theorem dX6_shortestEdge_76 : decode cX6_shortestEdge 76 = .ok (.bipush 50, 2) := by decide +kernel
theorem dX6_shortestEdge_78 : decode cX6_shortestEdge 78 = .ok (.if_icmp .lt 6, 3) := by decide +kernel
theorem dX6_shortestEdge_81 : decode cX6_shortestEdge 81 = .ok (.goto 48, 3) := by decide +kernel
theorem dX6_shortestEdge_84 : decode cX6_shortestEdge 84 = .ok (.aload_n 0, 1) := by decide +kernel
theorem dX6_shortestEdge_85 : decode cX6_shortestEdge 85 = .ok (.getfield 30, 3) := by decide +kernel
theorem dX6_shortestEdge_88 : decode cX6_shortestEdge 88 = .ok (.iload 4, 2) := by decide +kernel
theorem dX6_shortestEdge_90 : decode cX6_shortestEdge 90 = .ok (.invokevirtual 79, 3) := by decide +kernel
theorem dX6_shortestEdge_93 : decode cX6_shortestEdge 93 = .ok (.aload_n 0, 1) := by decide +kernel
theorem dX6_shortestEdge_94 : decode cX6_shortestEdge 94 = .ok (.getfield 11, 3) := by decide +kernel
theorem dX6_shortestEdge_97 : decode cX6_shortestEdge 97 = .ok (.iload 5, 2) := by decide +kernel
theorem dX6_shortestEdge_99 : decode cX6_shortestEdge 99 = .ok (.aload_n 0, 1) := by decide +kernel
theorem dX6_shortestEdge_100 : decode cX6_shortestEdge 100 = .ok (.getfield 27, 3) := by decide +kernel
theorem dX6_shortestEdge_103 : decode cX6_shortestEdge 103 = .ok (.iload 4, 2) := by decide +kernel
theorem dX6_shortestEdge_105 : decode cX6_shortestEdge 105 = .ok (.invokestatic 51, 3) := by decide +kernel
theorem dX6_shortestEdge_108 : decode cX6_shortestEdge 108 = .ok (.invokestatic 82, 3) := by decide +kernel
theorem dX6_shortestEdge_111 : decode cX6_shortestEdge 111 = .ok (.invokestatic 51, 3) := by decide +kernel
theorem dX6_shortestEdge_114 : decode cX6_shortestEdge 114 = .ok (.iadd, 1) := by decide +kernel
theorem dX6_shortestEdge_115 : decode cX6_shortestEdge 115 = .ok (.istore 6, 2) := by decide +kernel
theorem dX6_shortestEdge_117 : decode cX6_shortestEdge 117 = .ok (.iload 6, 2) := by decide +kernel
theorem dX6_shortestEdge_119 : decode cX6_shortestEdge 119 = .ok (.iload_n 2, 1) := by decide +kernel
theorem dX6_shortestEdge_120 : decode cX6_shortestEdge 120 = .ok (.if_icmp .ge 9, 3) := by decide +kernel
theorem dX6_shortestEdge_123 : decode cX6_shortestEdge 123 = .ok (.iload 6, 2) := by decide +kernel
theorem dX6_shortestEdge_125 : decode cX6_shortestEdge 125 = .ok (.istore_n 2, 1) := by decide +kernel
theorem dX6_shortestEdge_126 : decode cX6_shortestEdge 126 = .ok (.iload 4, 2) := by decide +kernel
theorem dX6_shortestEdge_128 : decode cX6_shortestEdge 128 = .ok (.istore_n 1, 1) := by decide +kernel
theorem dX6_shortestEdge_129 : decode cX6_shortestEdge 129 = .ok (.iinc 3 1, 3) := by decide +kernel
theorem dX6_shortestEdge_132 : decode cX6_shortestEdge 132 = .ok (.goto (-125), 3) := by decide +kernel
theorem dX6_shortestEdge_135 : decode cX6_shortestEdge 135 = .ok (.iload_n 1, 1) := by decide +kernel
theorem dX6_shortestEdge_136 : decode cX6_shortestEdge 136 = .ok (.ireturn, 1) := by decide +kernel
theorem dX6_putAhead_0 : decode cX6_putAhead 0 = .ok (.aload_n 0, 1) := by decide +kernel
theorem dX6_putAhead_1 : decode cX6_putAhead 1 = .ok (.getfield 30, 3) := by decide +kernel
theorem dX6_putAhead_4 : decode cX6_putAhead 4 = .ok (.iload_n 1, 1) := by decide +kernel
theorem dX6_putAhead_5 : decode cX6_putAhead 5 = .ok (.invokevirtual 73, 3) := by decide +kernel
theorem dX6_putAhead_8 : decode cX6_putAhead 8 = .ok (.aload_n 0, 1) := by decide +kernel
theorem dX6_putAhead_9 : decode cX6_putAhead 9 = .ok (.getfield 27, 3) := by decide +kernel
theorem dX6_putAhead_12 : decode cX6_putAhead 12 = .ok (.iload_n 1, 1) := by decide +kernel
theorem dX6_putAhead_13 : decode cX6_putAhead 13 = .ok (.invokestatic 51, 3) := by decide +kernel
theorem dX6_putAhead_16 : decode cX6_putAhead 16 = .ok (.invokestatic 82, 3) := by decide +kernel
theorem dX6_putAhead_19 : decode cX6_putAhead 19 = .ok (.istore_n 2, 1) := by decide +kernel
theorem dX6_putAhead_20 : decode cX6_putAhead 20 = .ok (.aload_n 0, 1) := by decide +kernel
theorem dX6_putAhead_21 : decode cX6_putAhead 21 = .ok (.getfield 30, 3) := by decide +kernel
theorem dX6_putAhead_24 : decode cX6_putAhead 24 = .ok (.iload_n 1, 1) := by decide +kernel
theorem dX6_putAhead_25 : decode cX6_putAhead 25 = .ok (.invokevirtual 79, 3) := by decide +kernel
theorem dX6_putAhead_28 : decode cX6_putAhead 28 = .ok (.aload_n 0, 1) := by decide +kernel
theorem dX6_putAhead_29 : decode cX6_putAhead 29 = .ok (.getfield 11, 3) := by decide +kernel
theorem dX6_putAhead_32 : decode cX6_putAhead 32 = .ok (.iload_n 2, 1) := by decide +kernel
theorem dX6_putAhead_33 : decode cX6_putAhead 33 = .ok (.invokestatic 51, 3) := by decide +kernel
theorem dX6_putAhead_36 : decode cX6_putAhead 36 = .ok (.iadd, 1) := by decide +kernel
theorem dX6_putAhead_37 : decode cX6_putAhead 37 = .ok (.istore_n 3, 1) := by decide +kernel
theorem dX6_putAhead_38 : decode cX6_putAhead 38 = .ok (.aload_n 0, 1) := by decide +kernel
theorem dX6_putAhead_39 : decode cX6_putAhead 39 = .ok (.getfield 27, 3) := by decide +kernel
theorem dX6_putAhead_42 : decode cX6_putAhead 42 = .ok (.iload_n 1, 1) := by decide +kernel
theorem dX6_putAhead_43 : decode cX6_putAhead 43 = .ok (.aload_n 0, 1) := by decide +kernel
theorem dX6_putAhead_44 : decode cX6_putAhead 44 = .ok (.getfield 27, 3) := by decide +kernel
theorem dX6_putAhead_47 : decode cX6_putAhead 47 = .ok (.iload_n 1, 1) := by decide +kernel
theorem dX6_putAhead_48 : decode cX6_putAhead 48 = .ok (.invokestatic 51, 3) := by decide +kernel
theorem dX6_putAhead_51 : decode cX6_putAhead 51 = .ok (.iconst 1, 1) := by decide +kernel
theorem dX6_putAhead_52 : decode cX6_putAhead 52 = .ok (.iadd, 1) := by decide +kernel
theorem dX6_putAhead_53 : decode cX6_putAhead 53 = .ok (.invokestatic 86, 3) := by decide +kernel
theorem dX6_putAhead_56 : decode cX6_putAhead 56 = .ok (.aload_n 0, 1) := by decide +kernel
theorem dX6_putAhead_57 : decode cX6_putAhead 57 = .ok (.aload_n 0, 1) := by decide +kernel
theorem dX6_putAhead_58 : decode cX6_putAhead 58 = .ok (.getfield 30, 3) := by decide +kernel
theorem dX6_putAhead_61 : decode cX6_putAhead 61 = .ok (.iload_n 1, 1) := by decide +kernel
theorem dX6_putAhead_62 : decode cX6_putAhead 62 = .ok (.invokevirtual 76, 3) := by decide +kernel
theorem dX6_putAhead_65 : decode cX6_putAhead 65 = .ok (.iload_n 3, 1) := by decide +kernel
theorem dX6_putAhead_66 : decode cX6_putAhead 66 = .ok (.aload_n 0, 1) := by decide +kernel
theorem dX6_putAhead_67 : decode cX6_putAhead 67 = .ok (.getfield 15, 3) := by decide +kernel
theorem dX6_putAhead_70 : decode cX6_putAhead 70 = .ok (.iload_n 2, 1) := by decide +kernel
theorem dX6_putAhead_71 : decode cX6_putAhead 71 = .ok (.invokestatic 51, 3) := by decide +kernel
theorem dX6_putAhead_74 : decode cX6_putAhead 74 = .ok (.iconst 1, 1) := by decide +kernel
theorem dX6_putAhead_75 : decode cX6_putAhead 75 = .ok (.iadd, 1) := by decide +kernel
theorem dX6_putAhead_76 : decode cX6_putAhead 76 = .ok (.iload_n 1, 1) := by decide +kernel
theorem dX6_putAhead_77 : decode cX6_putAhead 77 = .ok (.iload_n 2, 1) := by decide +kernel
theorem dX6_putAhead_78 : decode cX6_putAhead 78 = .ok (.invokevirtual 47, 3) := by decide +kernel
theorem dX6_putAhead_81 : decode cX6_putAhead 81 = .ok (.return_, 1) := by decide +kernel
theorem dX6_list_0 : decode cX6_list 0 = .ok (.iload_n 1, 1) := by decide +kernel
theorem dX6_list_1 : decode cX6_list 1 = .ok (.aload_n 0, 1) := by decide +kernel
theorem dX6_list_2 : decode cX6_list 2 = .ok (.getfield 24, 3) := by decide +kernel
theorem dX6_list_5 : decode cX6_list 5 = .ok (.iload_n 1, 1) := by decide +kernel
theorem dX6_list_6 : decode cX6_list 6 = .ok (.invokestatic 51, 3) := by decide +kernel
theorem dX6_list_9 : decode cX6_list 9 = .ok (.invokestatic 82, 3) := by decide +kernel
theorem dX6_list_12 : decode cX6_list 12 = .ok (.istore 6, 2) := by decide +kernel
theorem dX6_list_14 : decode cX6_list 14 = .ok (.aload_n 0, 1) := by decide +kernel
theorem dX6_list_15 : decode cX6_list 15 = .ok (.getfield 11, 3) := by decide +kernel
theorem dX6_list_18 : decode cX6_list 18 = .ok (.iload 6, 2) := by decide +kernel
theorem dX6_list_20 : decode cX6_list 20 = .ok (.iload_n 2, 1) := by decide +kernel
theorem dX6_list_21 : decode cX6_list 21 = .ok (.invokestatic 86, 3) := by decide +kernel
theorem dX6_list_24 : decode cX6_list 24 = .ok (.aload_n 0, 1) := by decide +kernel
theorem dX6_list_25 : decode cX6_list 25 = .ok (.getfield 15, 3) := by decide +kernel
theorem dX6_list_28 : decode cX6_list 28 = .ok (.iload 6, 2) := by decide +kernel
theorem dX6_list_30 : decode cX6_list 30 = .ok (.iload_n 3, 1) := by decide +kernel
theorem dX6_list_31 : decode cX6_list 31 = .ok (.invokestatic 86, 3) := by decide +kernel
theorem dX6_list_34 : decode cX6_list 34 = .ok (.aload_n 0, 1) := by decide +kernel
theorem dX6_list_35 : decode cX6_list 35 = .ok (.getfield 18, 3) := by decide +kernel
theorem dX6_list_38 : decode cX6_list 38 = .ok (.iload 6, 2) := by decide +kernel
theorem dX6_list_40 : decode cX6_list 40 = .ok (.iload 4, 2) := by decide +kernel
theorem dX6_list_42 : decode cX6_list 42 = .ok (.invokestatic 86, 3) := by decide +kernel
theorem dX6_list_45 : decode cX6_list 45 = .ok (.aload_n 0, 1) := by decide +kernel
theorem dX6_list_46 : decode cX6_list 46 = .ok (.getfield 21, 3) := by decide +kernel
theorem dX6_list_49 : decode cX6_list 49 = .ok (.iload 6, 2) := by decide +kernel
theorem dX6_list_51 : decode cX6_list 51 = .ok (.iload 5, 2) := by decide +kernel
theorem dX6_list_53 : decode cX6_list 53 = .ok (.invokestatic 86, 3) := by decide +kernel
theorem dX6_list_56 : decode cX6_list 56 = .ok (.aload_n 0, 1) := by decide +kernel
theorem dX6_list_57 : decode cX6_list 57 = .ok (.getfield 24, 3) := by decide +kernel
theorem dX6_list_60 : decode cX6_list 60 = .ok (.iload_n 1, 1) := by decide +kernel
theorem dX6_list_61 : decode cX6_list 61 = .ok (.aload_n 0, 1) := by decide +kernel
theorem dX6_list_62 : decode cX6_list 62 = .ok (.getfield 24, 3) := by decide +kernel
theorem dX6_list_65 : decode cX6_list 65 = .ok (.iload_n 1, 1) := by decide +kernel
theorem dX6_list_66 : decode cX6_list 66 = .ok (.invokestatic 51, 3) := by decide +kernel
theorem dX6_list_69 : decode cX6_list 69 = .ok (.iconst 1, 1) := by decide +kernel
theorem dX6_list_70 : decode cX6_list 70 = .ok (.iadd, 1) := by decide +kernel
theorem dX6_list_71 : decode cX6_list 71 = .ok (.invokestatic 86, 3) := by decide +kernel
theorem dX6_list_74 : decode cX6_list 74 = .ok (.return_, 1) := by decide +kernel
theorem dX6_entry_0 : decode cX6_entry 0 = .ok (.iload_n 0, 1) := by decide +kernel
theorem dX6_entry_1 : decode cX6_entry 1 = .ok (.bipush 50, 2) := by decide +kernel
theorem dX6_entry_3 : decode cX6_entry 3 = .ok (.imul, 1) := by decide +kernel
theorem dX6_entry_4 : decode cX6_entry 4 = .ok (.iload_n 1, 1) := by decide +kernel
theorem dX6_entry_5 : decode cX6_entry 5 = .ok (.iadd, 1) := by decide +kernel
theorem dX6_entry_6 : decode cX6_entry 6 = .ok (.ireturn, 1) := by decide +kernel
theorem dX6_currentEntry_0 : decode cX6_currentEntry 0 = .ok (.aload_n 0, 1) := by decide +kernel
theorem dX6_currentEntry_1 : decode cX6_currentEntry 1 = .ok (.getfield 34, 3) := by decide +kernel
theorem dX6_currentEntry_4 : decode cX6_currentEntry 4 = .ok (.aload_n 0, 1) := by decide +kernel
theorem dX6_currentEntry_5 : decode cX6_currentEntry 5 = .ok (.getfield 38, 3) := by decide +kernel
theorem dX6_currentEntry_8 : decode cX6_currentEntry 8 = .ok (.iconst 1, 1) := by decide +kernel
theorem dX6_currentEntry_9 : decode cX6_currentEntry 9 = .ok (.isub, 1) := by decide +kernel
theorem dX6_currentEntry_10 : decode cX6_currentEntry 10 = .ok (.invokestatic 82, 3) := by decide +kernel
theorem dX6_currentEntry_13 : decode cX6_currentEntry 13 = .ok (.ireturn, 1) := by decide +kernel
theorem dX6_drawnTotal_0 : decode cX6_drawnTotal 0 = .ok (.aload_n 0, 1) := by decide +kernel
theorem dX6_drawnTotal_1 : decode cX6_drawnTotal 1 = .ok (.getfield 38, 3) := by decide +kernel
theorem dX6_drawnTotal_4 : decode cX6_drawnTotal 4 = .ok (.ireturn, 1) := by decide +kernel
theorem dX6_currentLength_0 : decode cX6_currentLength 0 = .ok (.aload_n 0, 1) := by decide +kernel
theorem dX6_currentLength_1 : decode cX6_currentLength 1 = .ok (.getfield 11, 3) := by decide +kernel
theorem dX6_currentLength_4 : decode cX6_currentLength 4 = .ok (.aload_n 0, 1) := by decide +kernel
theorem dX6_currentLength_5 : decode cX6_currentLength 5 = .ok (.invokevirtual 90, 3) := by decide +kernel
theorem dX6_currentLength_8 : decode cX6_currentLength 8 = .ok (.invokestatic 51, 3) := by decide +kernel
theorem dX6_currentLength_11 : decode cX6_currentLength 11 = .ok (.ireturn, 1) := by decide +kernel
theorem dX6_currentSize_0 : decode cX6_currentSize 0 = .ok (.aload_n 0, 1) := by decide +kernel
theorem dX6_currentSize_1 : decode cX6_currentSize 1 = .ok (.getfield 15, 3) := by decide +kernel
theorem dX6_currentSize_4 : decode cX6_currentSize 4 = .ok (.aload_n 0, 1) := by decide +kernel
theorem dX6_currentSize_5 : decode cX6_currentSize 5 = .ok (.invokevirtual 90, 3) := by decide +kernel
theorem dX6_currentSize_8 : decode cX6_currentSize 8 = .ok (.invokestatic 51, 3) := by decide +kernel
theorem dX6_currentSize_11 : decode cX6_currentSize 11 = .ok (.ireturn, 1) := by decide +kernel
theorem dX6_currentEdge_0 : decode cX6_currentEdge 0 = .ok (.iload_n 1, 1) := by decide +kernel
theorem dX6_currentEdge_1 : decode cX6_currentEdge 1 = .ok (.ifCond .lt 11, 3) := by decide +kernel
theorem dX6_currentEdge_4 : decode cX6_currentEdge 4 = .ok (.iload_n 1, 1) := by decide +kernel
theorem dX6_currentEdge_5 : decode cX6_currentEdge 5 = .ok (.aload_n 0, 1) := by decide +kernel
theorem dX6_currentEdge_6 : decode cX6_currentEdge 6 = .ok (.invokevirtual 93, 3) := by decide +kernel
theorem dX6_currentEdge_9 : decode cX6_currentEdge 9 = .ok (.if_icmp .lt 5, 3) := by decide +kernel
theorem dX6_currentEdge_12 : decode cX6_currentEdge 12 = .ok (.iconst (-1), 1) := by decide +kernel
theorem dX6_currentEdge_13 : decode cX6_currentEdge 13 = .ok (.ireturn, 1) := by decide +kernel
theorem dX6_currentEdge_14 : decode cX6_currentEdge 14 = .ok (.aload_n 0, 1) := by decide +kernel
theorem dX6_currentEdge_15 : decode cX6_currentEdge 15 = .ok (.invokevirtual 90, 3) := by decide +kernel
theorem dX6_currentEdge_18 : decode cX6_currentEdge 18 = .ok (.istore_n 2, 1) := by decide +kernel
theorem dX6_currentEdge_19 : decode cX6_currentEdge 19 = .ok (.iconst 0, 1) := by decide +kernel
theorem dX6_currentEdge_20 : decode cX6_currentEdge 20 = .ok (.istore_n 3, 1) := by decide +kernel
theorem dX6_currentEdge_21 : decode cX6_currentEdge 21 = .ok (.iload_n 3, 1) := by decide +kernel
theorem dX6_currentEdge_22 : decode cX6_currentEdge 22 = .ok (.iload_n 1, 1) := by decide +kernel
theorem dX6_currentEdge_23 : decode cX6_currentEdge 23 = .ok (.if_icmp .ge 18, 3) := by decide +kernel
theorem dX6_currentEdge_26 : decode cX6_currentEdge 26 = .ok (.aload_n 0, 1) := by decide +kernel
theorem dX6_currentEdge_27 : decode cX6_currentEdge 27 = .ok (.getfield 21, 3) := by decide +kernel
theorem dX6_currentEdge_30 : decode cX6_currentEdge 30 = .ok (.iload_n 2, 1) := by decide +kernel
theorem dX6_currentEdge_31 : decode cX6_currentEdge 31 = .ok (.invokestatic 51, 3) := by decide +kernel
theorem dX6_currentEdge_34 : decode cX6_currentEdge 34 = .ok (.istore_n 2, 1) := by decide +kernel
theorem dX6_currentEdge_35 : decode cX6_currentEdge 35 = .ok (.iinc 3 1, 3) := by decide +kernel
theorem dX6_currentEdge_38 : decode cX6_currentEdge 38 = .ok (.goto (-17), 3) := by decide +kernel
theorem dX6_currentEdge_41 : decode cX6_currentEdge 41 = .ok (.aload_n 0, 1) := by decide +kernel
theorem dX6_currentEdge_42 : decode cX6_currentEdge 42 = .ok (.getfield 18, 3) := by decide +kernel
theorem dX6_currentEdge_45 : decode cX6_currentEdge 45 = .ok (.iload_n 2, 1) := by decide +kernel
theorem dX6_currentEdge_46 : decode cX6_currentEdge 46 = .ok (.invokestatic 51, 3) := by decide +kernel
theorem dX6_currentEdge_49 : decode cX6_currentEdge 49 = .ok (.ireturn, 1) := by decide +kernel
theorem dX7_init_0 : decode cX7_init 0 = .ok (.aload_n 0, 1) := by decide +kernel
theorem dX7_init_1 : decode cX7_init 1 = .ok (.invokespecial 1, 3) := by decide +kernel
theorem dX7_init_4 : decode cX7_init 4 = .ok (.new 7, 3) := by decide +kernel
theorem dX7_init_7 : decode cX7_init 7 = .ok (.dup, 1) := by decide +kernel
theorem dX7_init_8 : decode cX7_init 8 = .ok (.invokespecial 9, 3) := by decide +kernel
theorem dX7_init_11 : decode cX7_init 11 = .ok (.astore_n 1, 1) := by decide +kernel
theorem dX7_init_12 : decode cX7_init 12 = .ok (.aload_n 0, 1) := by decide +kernel
theorem dX7_init_13 : decode cX7_init 13 = .ok (.aload_n 1, 1) := by decide +kernel
theorem dX7_init_14 : decode cX7_init 14 = .ok (.putfield 10, 3) := by decide +kernel
theorem dX7_init_17 : decode cX7_init 17 = .ok (.aload_n 0, 1) := by decide +kernel
theorem dX7_init_18 : decode cX7_init 18 = .ok (.new 16, 3) := by decide +kernel
theorem dX7_init_21 : decode cX7_init 21 = .ok (.dup, 1) := by decide +kernel
theorem dX7_init_22 : decode cX7_init 22 = .ok (.aload_n 1, 1) := by decide +kernel
theorem dX7_init_23 : decode cX7_init 23 = .ok (.invokespecial 18, 3) := by decide +kernel
theorem dX7_init_26 : decode cX7_init 26 = .ok (.putfield 21, 3) := by decide +kernel
theorem dX7_init_29 : decode cX7_init 29 = .ok (.aload_n 0, 1) := by decide +kernel
theorem dX7_init_30 : decode cX7_init 30 = .ok (.new 25, 3) := by decide +kernel
theorem dX7_init_33 : decode cX7_init 33 = .ok (.dup, 1) := by decide +kernel
theorem dX7_init_34 : decode cX7_init 34 = .ok (.aload_n 1, 1) := by decide +kernel
theorem dX7_init_35 : decode cX7_init 35 = .ok (.invokespecial 27, 3) := by decide +kernel
theorem dX7_init_38 : decode cX7_init 38 = .ok (.putfield 28, 3) := by decide +kernel
theorem dX7_init_41 : decode cX7_init 41 = .ok (.aload_n 0, 1) := by decide +kernel
theorem dX7_init_42 : decode cX7_init 42 = .ok (.new 32, 3) := by decide +kernel
theorem dX7_init_45 : decode cX7_init 45 = .ok (.dup, 1) := by decide +kernel
theorem dX7_init_46 : decode cX7_init 46 = .ok (.aload_n 1, 1) := by decide +kernel
theorem dX7_init_47 : decode cX7_init 47 = .ok (.invokespecial 34, 3) := by decide +kernel
theorem dX7_init_50 : decode cX7_init 50 = .ok (.putfield 35, 3) := by decide +kernel
theorem dX7_init_53 : decode cX7_init 53 = .ok (.aload_n 0, 1) := by decide +kernel
theorem dX7_init_54 : decode cX7_init 54 = .ok (.new 39, 3) := by decide +kernel
theorem dX7_init_57 : decode cX7_init 57 = .ok (.dup, 1) := by decide +kernel
theorem dX7_init_58 : decode cX7_init 58 = .ok (.aload_n 1, 1) := by decide +kernel
theorem dX7_init_59 : decode cX7_init 59 = .ok (.invokespecial 41, 3) := by decide +kernel
theorem dX7_init_62 : decode cX7_init 62 = .ok (.putfield 42, 3) := by decide +kernel
theorem dX7_init_65 : decode cX7_init 65 = .ok (.aload_n 0, 1) := by decide +kernel
theorem dX7_init_66 : decode cX7_init 66 = .ok (.new 46, 3) := by decide +kernel
theorem dX7_init_69 : decode cX7_init 69 = .ok (.dup, 1) := by decide +kernel
theorem dX7_init_70 : decode cX7_init 70 = .ok (.aload_n 1, 1) := by decide +kernel
theorem dX7_init_71 : decode cX7_init 71 = .ok (.invokespecial 48, 3) := by decide +kernel
theorem dX7_init_74 : decode cX7_init 74 = .ok (.putfield 49, 3) := by decide +kernel
theorem dX7_init_77 : decode cX7_init 77 = .ok (.aload_n 0, 1) := by decide +kernel
theorem dX7_init_78 : decode cX7_init 78 = .ok (.new 53, 3) := by decide +kernel
theorem dX7_init_81 : decode cX7_init 81 = .ok (.dup, 1) := by decide +kernel
theorem dX7_init_82 : decode cX7_init 82 = .ok (.aload_n 1, 1) := by decide +kernel
theorem dX7_init_83 : decode cX7_init 83 = .ok (.invokespecial 55, 3) := by decide +kernel
theorem dX7_init_86 : decode cX7_init 86 = .ok (.putfield 56, 3) := by decide +kernel
theorem dX7_init_89 : decode cX7_init 89 = .ok (.return_, 1) := by decide +kernel
theorem dX7_begin_0 : decode cX7_begin 0 = .ok (.iload_n 1, 1) := by decide +kernel
theorem dX7_begin_1 : decode cX7_begin 1 = .ok (.iconst 2, 1) := by decide +kernel
theorem dX7_begin_2 : decode cX7_begin 2 = .ok (.bipush 10, 2) := by decide +kernel
theorem dX7_begin_4 : decode cX7_begin 4 = .ok (.invokestatic 60, 3) := by decide +kernel
theorem dX7_begin_7 : decode cX7_begin 7 = .ok (.aload_n 0, 1) := by decide +kernel
theorem dX7_begin_8 : decode cX7_begin 8 = .ok (.getfield 10, 3) := by decide +kernel
theorem dX7_begin_11 : decode cX7_begin 11 = .ok (.iload_n 1, 1) := by decide +kernel
theorem dX7_begin_12 : decode cX7_begin 12 = .ok (.invokevirtual 64, 3) := by decide +kernel
theorem dX7_begin_15 : decode cX7_begin 15 = .ok (.aload_n 0, 1) := by decide +kernel
theorem dX7_begin_16 : decode cX7_begin 16 = .ok (.invokevirtual 68, 3) := by decide +kernel
theorem dX7_begin_19 : decode cX7_begin 19 = .ok (.return_, 1) := by decide +kernel
theorem dX7_addEdge_0 : decode cX7_addEdge 0 = .ok (.aload_n 0, 1) := by decide +kernel
theorem dX7_addEdge_1 : decode cX7_addEdge 1 = .ok (.iload_n 1, 1) := by decide +kernel
theorem dX7_addEdge_2 : decode cX7_addEdge 2 = .ok (.iload_n 2, 1) := by decide +kernel
theorem dX7_addEdge_3 : decode cX7_addEdge 3 = .ok (.invokevirtual 71, 3) := by decide +kernel
theorem dX7_addEdge_6 : decode cX7_addEdge 6 = .ok (.iload_n 3, 1) := by decide +kernel
theorem dX7_addEdge_7 : decode cX7_addEdge 7 = .ok (.iconst 1, 1) := by decide +kernel
theorem dX7_addEdge_8 : decode cX7_addEdge 8 = .ok (.sipush 1000, 3) := by decide +kernel
theorem dX7_addEdge_11 : decode cX7_addEdge 11 = .ok (.invokestatic 60, 3) := by decide +kernel
theorem dX7_addEdge_14 : decode cX7_addEdge 14 = .ok (.aload_n 0, 1) := by decide +kernel
theorem dX7_addEdge_15 : decode cX7_addEdge 15 = .ok (.getfield 10, 3) := by decide +kernel
theorem dX7_addEdge_18 : decode cX7_addEdge 18 = .ok (.invokevirtual 75, 3) := by decide +kernel
theorem dX7_addEdge_21 : decode cX7_addEdge 21 = .ok (.ifCond .ne 13, 3) := by decide +kernel
theorem dX7_addEdge_24 : decode cX7_addEdge 24 = .ok (.new 79, 3) := by decide +kernel
theorem dX7_addEdge_27 : decode cX7_addEdge 27 = .ok (.dup, 1) := by decide +kernel
theorem dX7_addEdge_28 : decode cX7_addEdge 28 = .ok (.ldc 81, 2) := by decide +kernel
theorem dX7_addEdge_30 : decode cX7_addEdge 30 = .ok (.invokespecial 83, 3) := by decide +kernel
theorem dX7_addEdge_33 : decode cX7_addEdge 33 = .ok (.athrow, 1) := by decide +kernel
theorem dX7_addEdge_34 : decode cX7_addEdge 34 = .ok (.aload_n 0, 1) := by decide +kernel
theorem dX7_addEdge_35 : decode cX7_addEdge 35 = .ok (.invokevirtual 68, 3) := by decide +kernel
theorem dX7_addEdge_38 : decode cX7_addEdge 38 = .ok (.aload_n 0, 1) := by decide +kernel
theorem dX7_addEdge_39 : decode cX7_addEdge 39 = .ok (.getfield 10, 3) := by decide +kernel
theorem dX7_addEdge_42 : decode cX7_addEdge 42 = .ok (.iload_n 1, 1) := by decide +kernel
theorem dX7_addEdge_43 : decode cX7_addEdge 43 = .ok (.iload_n 2, 1) := by decide +kernel
theorem dX7_addEdge_44 : decode cX7_addEdge 44 = .ok (.iload_n 3, 1) := by decide +kernel
theorem dX7_addEdge_45 : decode cX7_addEdge 45 = .ok (.invokevirtual 86, 3) := by decide +kernel
theorem dX7_addEdge_48 : decode cX7_addEdge 48 = .ok (.ireturn, 1) := by decide +kernel
theorem dX7_setLength_0 : decode cX7_setLength 0 = .ok (.aload_n 0, 1) := by decide +kernel
theorem dX7_setLength_1 : decode cX7_setLength 1 = .ok (.iload_n 1, 1) := by decide +kernel
theorem dX7_setLength_2 : decode cX7_setLength 2 = .ok (.invokevirtual 90, 3) := by decide +kernel
theorem dX7_setLength_5 : decode cX7_setLength 5 = .ok (.iload_n 2, 1) := by decide +kernel
theorem dX7_setLength_6 : decode cX7_setLength 6 = .ok (.iconst 1, 1) := by decide +kernel
theorem dX7_setLength_7 : decode cX7_setLength 7 = .ok (.sipush 1000, 3) := by decide +kernel
theorem dX7_setLength_10 : decode cX7_setLength 10 = .ok (.invokestatic 60, 3) := by decide +kernel
theorem dX7_setLength_13 : decode cX7_setLength 13 = .ok (.aload_n 0, 1) := by decide +kernel
theorem dX7_setLength_14 : decode cX7_setLength 14 = .ok (.invokevirtual 68, 3) := by decide +kernel
theorem dX7_setLength_17 : decode cX7_setLength 17 = .ok (.aload_n 0, 1) := by decide +kernel
theorem dX7_setLength_18 : decode cX7_setLength 18 = .ok (.getfield 10, 3) := by decide +kernel
theorem dX7_setLength_21 : decode cX7_setLength 21 = .ok (.iload_n 1, 1) := by decide +kernel
theorem dX7_setLength_22 : decode cX7_setLength 22 = .ok (.iload_n 2, 1) := by decide +kernel
theorem dX7_setLength_23 : decode cX7_setLength 23 = .ok (.invokevirtual 93, 3) := by decide +kernel
theorem dX7_setLength_26 : decode cX7_setLength 26 = .ok (.ireturn, 1) := by decide +kernel
theorem dX7_toggleEdge_0 : decode cX7_toggleEdge 0 = .ok (.aload_n 0, 1) := by decide +kernel
theorem dX7_toggleEdge_1 : decode cX7_toggleEdge 1 = .ok (.iload_n 1, 1) := by decide +kernel
theorem dX7_toggleEdge_2 : decode cX7_toggleEdge 2 = .ok (.invokevirtual 90, 3) := by decide +kernel
theorem dX7_toggleEdge_5 : decode cX7_toggleEdge 5 = .ok (.aload_n 0, 1) := by decide +kernel
theorem dX7_toggleEdge_6 : decode cX7_toggleEdge 6 = .ok (.invokevirtual 68, 3) := by decide +kernel
theorem dX7_toggleEdge_9 : decode cX7_toggleEdge 9 = .ok (.aload_n 0, 1) := by decide +kernel
theorem dX7_toggleEdge_10 : decode cX7_toggleEdge 10 = .ok (.getfield 10, 3) := by decide +kernel
theorem dX7_toggleEdge_13 : decode cX7_toggleEdge 13 = .ok (.iload_n 1, 1) := by decide +kernel
theorem dX7_toggleEdge_14 : decode cX7_toggleEdge 14 = .ok (.invokevirtual 97, 3) := by decide +kernel
theorem dX7_toggleEdge_17 : decode cX7_toggleEdge 17 = .ok (.ireturn, 1) := by decide +kernel
theorem dX7_toggleNode_0 : decode cX7_toggleNode 0 = .ok (.aload_n 0, 1) := by decide +kernel
theorem dX7_toggleNode_1 : decode cX7_toggleNode 1 = .ok (.iload_n 1, 1) := by decide +kernel
theorem dX7_toggleNode_2 : decode cX7_toggleNode 2 = .ok (.iload_n 1, 1) := by decide +kernel
theorem dX7_toggleNode_3 : decode cX7_toggleNode 3 = .ok (.invokevirtual 101, 3) := by decide +kernel
theorem dX7_toggleNode_6 : decode cX7_toggleNode 6 = .ok (.aload_n 0, 1) := by decide +kernel
theorem dX7_toggleNode_7 : decode cX7_toggleNode 7 = .ok (.invokevirtual 68, 3) := by decide +kernel
theorem dX7_toggleNode_10 : decode cX7_toggleNode 10 = .ok (.aload_n 0, 1) := by decide +kernel
theorem dX7_toggleNode_11 : decode cX7_toggleNode 11 = .ok (.getfield 10, 3) := by decide +kernel
theorem dX7_toggleNode_14 : decode cX7_toggleNode 14 = .ok (.iload_n 1, 1) := by decide +kernel
theorem dX7_toggleNode_15 : decode cX7_toggleNode 15 = .ok (.invokevirtual 104, 3) := by decide +kernel
theorem dX7_toggleNode_18 : decode cX7_toggleNode 18 = .ok (.ireturn, 1) := by decide +kernel
theorem dX7_toggleTurn_0 : decode cX7_toggleTurn 0 = .ok (.aload_n 0, 1) := by decide +kernel
theorem dX7_toggleTurn_1 : decode cX7_toggleTurn 1 = .ok (.iload_n 1, 1) := by decide +kernel
theorem dX7_toggleTurn_2 : decode cX7_toggleTurn 2 = .ok (.invokevirtual 90, 3) := by decide +kernel
theorem dX7_toggleTurn_5 : decode cX7_toggleTurn 5 = .ok (.aload_n 0, 1) := by decide +kernel
theorem dX7_toggleTurn_6 : decode cX7_toggleTurn 6 = .ok (.iload_n 2, 1) := by decide +kernel
theorem dX7_toggleTurn_7 : decode cX7_toggleTurn 7 = .ok (.invokevirtual 90, 3) := by decide +kernel
theorem dX7_toggleTurn_10 : decode cX7_toggleTurn 10 = .ok (.aload_n 0, 1) := by decide +kernel
theorem dX7_toggleTurn_11 : decode cX7_toggleTurn 11 = .ok (.getfield 10, 3) := by decide +kernel
theorem dX7_toggleTurn_14 : decode cX7_toggleTurn 14 = .ok (.iload_n 1, 1) := by decide +kernel
theorem dX7_toggleTurn_15 : decode cX7_toggleTurn 15 = .ok (.invokevirtual 107, 3) := by decide +kernel
theorem dX7_toggleTurn_18 : decode cX7_toggleTurn 18 = .ok (.aload_n 0, 1) := by decide +kernel
theorem dX7_toggleTurn_19 : decode cX7_toggleTurn 19 = .ok (.getfield 10, 3) := by decide +kernel
theorem dX7_toggleTurn_22 : decode cX7_toggleTurn 22 = .ok (.iload_n 2, 1) := by decide +kernel
theorem dX7_toggleTurn_23 : decode cX7_toggleTurn 23 = .ok (.invokevirtual 111, 3) := by decide +kernel
theorem dX7_toggleTurn_26 : decode cX7_toggleTurn 26 = .ok (.if_icmp .eq 13, 3) := by decide +kernel
theorem dX7_toggleTurn_29 : decode cX7_toggleTurn 29 = .ok (.new 114, 3) := by decide +kernel
theorem dX7_toggleTurn_32 : decode cX7_toggleTurn 32 = .ok (.dup, 1) := by decide +kernel
theorem dX7_toggleTurn_33 : decode cX7_toggleTurn 33 = .ok (.ldc 116, 2) := by decide +kernel
theorem dX7_toggleTurn_35 : decode cX7_toggleTurn 35 = .ok (.invokespecial 118, 3) := by decide +kernel
theorem dX7_toggleTurn_38 : decode cX7_toggleTurn 38 = .ok (.athrow, 1) := by decide +kernel
theorem dX7_toggleTurn_39 : decode cX7_toggleTurn 39 = .ok (.aload_n 0, 1) := by decide +kernel
theorem dX7_toggleTurn_40 : decode cX7_toggleTurn 40 = .ok (.getfield 10, 3) := by decide +kernel
theorem dX7_toggleTurn_43 : decode cX7_toggleTurn 43 = .ok (.iload_n 1, 1) := by decide +kernel
theorem dX7_toggleTurn_44 : decode cX7_toggleTurn 44 = .ok (.iload_n 2, 1) := by decide +kernel
theorem dX7_toggleTurn_45 : decode cX7_toggleTurn 45 = .ok (.invokevirtual 119, 3) := by decide +kernel
theorem dX7_toggleTurn_48 : decode cX7_toggleTurn 48 = .ok (.ireturn, 1) := by decide +kernel
theorem dX7_nodes_0 : decode cX7_nodes 0 = .ok (.aload_n 0, 1) := by decide +kernel
theorem dX7_nodes_1 : decode cX7_nodes 1 = .ok (.getfield 10, 3) := by decide +kernel
theorem dX7_nodes_4 : decode cX7_nodes 4 = .ok (.invokevirtual 123, 3) := by decide +kernel
theorem dX7_nodes_7 : decode cX7_nodes 7 = .ok (.ireturn, 1) := by decide +kernel
theorem dX7_edges_0 : decode cX7_edges 0 = .ok (.aload_n 0, 1) := by decide +kernel
theorem dX7_edges_1 : decode cX7_edges 1 = .ok (.getfield 10, 3) := by decide +kernel
theorem dX7_edges_4 : decode cX7_edges 4 = .ok (.invokevirtual 127, 3) := by decide +kernel
theorem dX7_edges_7 : decode cX7_edges 7 = .ok (.ireturn, 1) := by decide +kernel
theorem dX7_usableEdges_0 : decode cX7_usableEdges 0 = .ok (.aload_n 0, 1) := by decide +kernel
theorem dX7_usableEdges_1 : decode cX7_usableEdges 1 = .ok (.getfield 10, 3) := by decide +kernel
theorem dX7_usableEdges_4 : decode cX7_usableEdges 4 = .ok (.invokevirtual 130, 3) := by decide +kernel
theorem dX7_usableEdges_7 : decode cX7_usableEdges 7 = .ok (.ireturn, 1) := by decide +kernel
theorem dX7_distance_0 : decode cX7_distance 0 = .ok (.aload_n 0, 1) := by decide +kernel
theorem dX7_distance_1 : decode cX7_distance 1 = .ok (.iload_n 1, 1) := by decide +kernel
theorem dX7_distance_2 : decode cX7_distance 2 = .ok (.iload_n 2, 1) := by decide +kernel
theorem dX7_distance_3 : decode cX7_distance 3 = .ok (.invokevirtual 101, 3) := by decide +kernel
theorem dX7_distance_6 : decode cX7_distance 6 = .ok (.aload_n 0, 1) := by decide +kernel
theorem dX7_distance_7 : decode cX7_distance 7 = .ok (.getfield 21, 3) := by decide +kernel
theorem dX7_distance_10 : decode cX7_distance 10 = .ok (.iload_n 2, 1) := by decide +kernel
theorem dX7_distance_11 : decode cX7_distance 11 = .ok (.invokevirtual 133, 3) := by decide +kernel
theorem dX7_distance_14 : decode cX7_distance 14 = .ok (.aload_n 0, 1) := by decide +kernel
theorem dX7_distance_15 : decode cX7_distance 15 = .ok (.getfield 21, 3) := by decide +kernel
theorem dX7_distance_18 : decode cX7_distance 18 = .ok (.iload_n 1, 1) := by decide +kernel
theorem dX7_distance_19 : decode cX7_distance 19 = .ok (.invokevirtual 136, 3) := by decide +kernel
theorem dX7_distance_22 : decode cX7_distance 22 = .ok (.invokestatic 139, 3) := by decide +kernel
theorem dX7_distance_25 : decode cX7_distance 25 = .ok (.ireturn, 1) := by decide +kernel
theorem dX7_startPaths_0 : decode cX7_startPaths 0 = .ok (.aload_n 0, 1) := by decide +kernel
theorem dX7_startPaths_1 : decode cX7_startPaths 1 = .ok (.iload_n 1, 1) := by decide +kernel
theorem dX7_startPaths_2 : decode cX7_startPaths 2 = .ok (.iload_n 2, 1) := by decide +kernel
theorem dX7_startPaths_3 : decode cX7_startPaths 3 = .ok (.invokevirtual 71, 3) := by decide +kernel
theorem dX7_startPaths_6 : decode cX7_startPaths 6 = .ok (.aload_n 0, 1) := by decide +kernel
theorem dX7_startPaths_7 : decode cX7_startPaths 7 = .ok (.getfield 28, 3) := by decide +kernel
theorem dX7_startPaths_10 : decode cX7_startPaths 10 = .ok (.iload_n 1, 1) := by decide +kernel
theorem dX7_startPaths_11 : decode cX7_startPaths 11 = .ok (.iload_n 2, 1) := by decide +kernel
theorem dX7_startPaths_12 : decode cX7_startPaths 12 = .ok (.invokevirtual 142, 3) := by decide +kernel
theorem dX7_startPaths_15 : decode cX7_startPaths 15 = .ok (.aload_n 0, 1) := by decide +kernel
theorem dX7_startPaths_16 : decode cX7_startPaths 16 = .ok (.iconst 1, 1) := by decide +kernel
theorem dX7_startPaths_17 : decode cX7_startPaths 17 = .ok (.putfield 145, 3) := by decide +kernel
theorem dX7_startPaths_20 : decode cX7_startPaths 20 = .ok (.return_, 1) := by decide +kernel
theorem dX7_nextPath_0 : decode cX7_nextPath 0 = .ok (.aload_n 0, 1) := by decide +kernel
theorem dX7_nextPath_1 : decode cX7_nextPath 1 = .ok (.getfield 145, 3) := by decide +kernel
theorem dX7_nextPath_4 : decode cX7_nextPath 4 = .ok (.invokestatic 149, 3) := by decide +kernel
theorem dX7_nextPath_7 : decode cX7_nextPath 7 = .ok (.aload_n 0, 1) := by decide +kernel
theorem dX7_nextPath_8 : decode cX7_nextPath 8 = .ok (.getfield 28, 3) := by decide +kernel
theorem dX7_nextPath_11 : decode cX7_nextPath 11 = .ok (.invokevirtual 153, 3) := by decide +kernel
theorem dX7_nextPath_14 : decode cX7_nextPath 14 = .ok (.ifCond .ne 13, 3) := by decide +kernel
theorem dX7_nextPath_17 : decode cX7_nextPath 17 = .ok (.new 156, 3) := by decide +kernel
theorem dX7_nextPath_20 : decode cX7_nextPath 20 = .ok (.dup, 1) := by decide +kernel
theorem dX7_nextPath_21 : decode cX7_nextPath 21 = .ok (.ldc 158, 2) := by decide +kernel
theorem dX7_nextPath_23 : decode cX7_nextPath 23 = .ok (.invokespecial 160, 3) := by decide +kernel
theorem dX7_nextPath_26 : decode cX7_nextPath 26 = .ok (.athrow, 1) := by decide +kernel
theorem dX7_nextPath_27 : decode cX7_nextPath 27 = .ok (.aload_n 0, 1) := by decide +kernel
theorem dX7_nextPath_28 : decode cX7_nextPath 28 = .ok (.getfield 28, 3) := by decide +kernel
theorem dX7_nextPath_31 : decode cX7_nextPath 31 = .ok (.invokevirtual 161, 3) := by decide +kernel
theorem dX7_nextPath_34 : decode cX7_nextPath 34 = .ok (.ireturn, 1) := by decide +kernel
theorem dX7_pathsDrawn_0 : decode cX7_pathsDrawn 0 = .ok (.aload_n 0, 1) := by decide +kernel
theorem dX7_pathsDrawn_1 : decode cX7_pathsDrawn 1 = .ok (.getfield 145, 3) := by decide +kernel
theorem dX7_pathsDrawn_4 : decode cX7_pathsDrawn 4 = .ok (.invokestatic 149, 3) := by decide +kernel
theorem dX7_pathsDrawn_7 : decode cX7_pathsDrawn 7 = .ok (.aload_n 0, 1) := by decide +kernel
theorem dX7_pathsDrawn_8 : decode cX7_pathsDrawn 8 = .ok (.getfield 28, 3) := by decide +kernel
theorem dX7_pathsDrawn_11 : decode cX7_pathsDrawn 11 = .ok (.invokevirtual 164, 3) := by decide +kernel
theorem dX7_pathsDrawn_14 : decode cX7_pathsDrawn 14 = .ok (.ireturn, 1) := by decide +kernel
theorem dX7_pathEdges_0 : decode cX7_pathEdges 0 = .ok (.aload_n 0, 1) := by decide +kernel
theorem dX7_pathEdges_1 : decode cX7_pathEdges 1 = .ok (.getfield 145, 3) := by decide +kernel
theorem dX7_pathEdges_4 : decode cX7_pathEdges 4 = .ok (.invokestatic 149, 3) := by decide +kernel
theorem dX7_pathEdges_7 : decode cX7_pathEdges 7 = .ok (.aload_n 0, 1) := by decide +kernel
theorem dX7_pathEdges_8 : decode cX7_pathEdges 8 = .ok (.getfield 28, 3) := by decide +kernel
theorem dX7_pathEdges_11 : decode cX7_pathEdges 11 = .ok (.invokevirtual 164, 3) := by decide +kernel
theorem dX7_pathEdges_14 : decode cX7_pathEdges 14 = .ok (.invokestatic 167, 3) := by decide +kernel
theorem dX7_pathEdges_17 : decode cX7_pathEdges 17 = .ok (.aload_n 0, 1) := by decide +kernel
theorem dX7_pathEdges_18 : decode cX7_pathEdges 18 = .ok (.getfield 28, 3) := by decide +kernel
theorem dX7_pathEdges_21 : decode cX7_pathEdges 21 = .ok (.invokevirtual 170, 3) := by decide +kernel
theorem dX7_pathEdges_24 : decode cX7_pathEdges 24 = .ok (.ireturn, 1) := by decide +kernel
theorem dX7_pathEdge_0 : decode cX7_pathEdge 0 = .ok (.aload_n 0, 1) := by decide +kernel
theorem dX7_pathEdge_1 : decode cX7_pathEdge 1 = .ok (.getfield 145, 3) := by decide +kernel
theorem dX7_pathEdge_4 : decode cX7_pathEdge 4 = .ok (.invokestatic 149, 3) := by decide +kernel
theorem dX7_pathEdge_7 : decode cX7_pathEdge 7 = .ok (.aload_n 0, 1) := by decide +kernel
theorem dX7_pathEdge_8 : decode cX7_pathEdge 8 = .ok (.getfield 28, 3) := by decide +kernel
theorem dX7_pathEdge_11 : decode cX7_pathEdge 11 = .ok (.invokevirtual 164, 3) := by decide +kernel
theorem dX7_pathEdge_14 : decode cX7_pathEdge 14 = .ok (.invokestatic 167, 3) := by decide +kernel
theorem dX7_pathEdge_17 : decode cX7_pathEdge 17 = .ok (.aload_n 0, 1) := by decide +kernel
theorem dX7_pathEdge_18 : decode cX7_pathEdge 18 = .ok (.getfield 28, 3) := by decide +kernel
theorem dX7_pathEdge_21 : decode cX7_pathEdge 21 = .ok (.iload_n 1, 1) := by decide +kernel
theorem dX7_pathEdge_22 : decode cX7_pathEdge 22 = .ok (.invokevirtual 173, 3) := by decide +kernel
theorem dX7_pathEdge_25 : decode cX7_pathEdge 25 = .ok (.invokestatic 176, 3) := by decide +kernel
theorem dX7_pathEdge_28 : decode cX7_pathEdge 28 = .ok (.ireturn, 1) := by decide +kernel
theorem dX7_countPaths_0 : decode cX7_countPaths 0 = .ok (.aload_n 0, 1) := by decide +kernel
theorem dX7_countPaths_1 : decode cX7_countPaths 1 = .ok (.iload_n 1, 1) := by decide +kernel
theorem dX7_countPaths_2 : decode cX7_countPaths 2 = .ok (.iload_n 2, 1) := by decide +kernel
theorem dX7_countPaths_3 : decode cX7_countPaths 3 = .ok (.invokevirtual 71, 3) := by decide +kernel
theorem dX7_countPaths_6 : decode cX7_countPaths 6 = .ok (.iload_n 3, 1) := by decide +kernel
theorem dX7_countPaths_7 : decode cX7_countPaths 7 = .ok (.iconst 0, 1) := by decide +kernel
theorem dX7_countPaths_8 : decode cX7_countPaths 8 = .ok (.ldc 179, 2) := by decide +kernel
theorem dX7_countPaths_10 : decode cX7_countPaths 10 = .ok (.invokestatic 60, 3) := by decide +kernel
theorem dX7_countPaths_13 : decode cX7_countPaths 13 = .ok (.aload_n 0, 1) := by decide +kernel
theorem dX7_countPaths_14 : decode cX7_countPaths 14 = .ok (.getfield 35, 3) := by decide +kernel
theorem dX7_countPaths_17 : decode cX7_countPaths 17 = .ok (.iload_n 1, 1) := by decide +kernel
theorem dX7_countPaths_18 : decode cX7_countPaths 18 = .ok (.iload_n 2, 1) := by decide +kernel
theorem dX7_countPaths_19 : decode cX7_countPaths 19 = .ok (.iload_n 3, 1) := by decide +kernel
theorem dX7_countPaths_20 : decode cX7_countPaths 20 = .ok (.invokevirtual 180, 3) := by decide +kernel
theorem dX7_countPaths_23 : decode cX7_countPaths 23 = .ok (.ireturn, 1) := by decide +kernel
theorem dX7_startWalks_0 : decode cX7_startWalks 0 = .ok (.aload_n 0, 1) := by decide +kernel
theorem dX7_startWalks_1 : decode cX7_startWalks 1 = .ok (.iload_n 1, 1) := by decide +kernel
theorem dX7_startWalks_2 : decode cX7_startWalks 2 = .ok (.iload_n 2, 1) := by decide +kernel
theorem dX7_startWalks_3 : decode cX7_startWalks 3 = .ok (.invokevirtual 101, 3) := by decide +kernel
theorem dX7_startWalks_6 : decode cX7_startWalks 6 = .ok (.aload_n 0, 1) := by decide +kernel
theorem dX7_startWalks_7 : decode cX7_startWalks 7 = .ok (.getfield 42, 3) := by decide +kernel
theorem dX7_startWalks_10 : decode cX7_startWalks 10 = .ok (.iload_n 1, 1) := by decide +kernel
theorem dX7_startWalks_11 : decode cX7_startWalks 11 = .ok (.iload_n 2, 1) := by decide +kernel
theorem dX7_startWalks_12 : decode cX7_startWalks 12 = .ok (.invokevirtual 183, 3) := by decide +kernel
theorem dX7_startWalks_15 : decode cX7_startWalks 15 = .ok (.aload_n 0, 1) := by decide +kernel
theorem dX7_startWalks_16 : decode cX7_startWalks 16 = .ok (.iconst 1, 1) := by decide +kernel
theorem dX7_startWalks_17 : decode cX7_startWalks 17 = .ok (.putfield 184, 3) := by decide +kernel
theorem dX7_startWalks_20 : decode cX7_startWalks 20 = .ok (.return_, 1) := by decide +kernel
theorem dX7_nextWalk_0 : decode cX7_nextWalk 0 = .ok (.aload_n 0, 1) := by decide +kernel
theorem dX7_nextWalk_1 : decode cX7_nextWalk 1 = .ok (.getfield 184, 3) := by decide +kernel
theorem dX7_nextWalk_4 : decode cX7_nextWalk 4 = .ok (.invokestatic 149, 3) := by decide +kernel
theorem dX7_nextWalk_7 : decode cX7_nextWalk 7 = .ok (.aload_n 0, 1) := by decide +kernel
theorem dX7_nextWalk_8 : decode cX7_nextWalk 8 = .ok (.getfield 42, 3) := by decide +kernel
theorem dX7_nextWalk_11 : decode cX7_nextWalk 11 = .ok (.invokevirtual 187, 3) := by decide +kernel
theorem dX7_nextWalk_14 : decode cX7_nextWalk 14 = .ok (.bipush 50, 2) := by decide +kernel
theorem dX7_nextWalk_16 : decode cX7_nextWalk 16 = .ok (.if_icmp .lt 13, 3) := by decide +kernel
theorem dX7_nextWalk_19 : decode cX7_nextWalk 19 = .ok (.new 79, 3) := by decide +kernel
theorem dX7_nextWalk_22 : decode cX7_nextWalk 22 = .ok (.dup, 1) := by decide +kernel
theorem dX7_nextWalk_23 : decode cX7_nextWalk 23 = .ok (.ldc 188, 2) := by decide +kernel
theorem dX7_nextWalk_25 : decode cX7_nextWalk 25 = .ok (.invokespecial 83, 3) := by decide +kernel
theorem dX7_nextWalk_28 : decode cX7_nextWalk 28 = .ok (.athrow, 1) := by decide +kernel
theorem dX7_nextWalk_29 : decode cX7_nextWalk 29 = .ok (.aload_n 0, 1) := by decide +kernel
theorem dX7_nextWalk_30 : decode cX7_nextWalk 30 = .ok (.getfield 42, 3) := by decide +kernel
theorem dX7_nextWalk_33 : decode cX7_nextWalk 33 = .ok (.invokevirtual 190, 3) := by decide +kernel
theorem dX7_nextWalk_36 : decode cX7_nextWalk 36 = .ok (.ifCond .ne 13, 3) := by decide +kernel
theorem dX7_nextWalk_39 : decode cX7_nextWalk 39 = .ok (.new 156, 3) := by decide +kernel
theorem dX7_nextWalk_42 : decode cX7_nextWalk 42 = .ok (.dup, 1) := by decide +kernel
theorem dX7_nextWalk_43 : decode cX7_nextWalk 43 = .ok (.ldc 191, 2) := by decide +kernel
theorem dX7_nextWalk_45 : decode cX7_nextWalk 45 = .ok (.invokespecial 160, 3) := by decide +kernel
theorem dX7_nextWalk_48 : decode cX7_nextWalk 48 = .ok (.athrow, 1) := by decide +kernel
theorem dX7_nextWalk_49 : decode cX7_nextWalk 49 = .ok (.aload_n 0, 1) := by decide +kernel
theorem dX7_nextWalk_50 : decode cX7_nextWalk 50 = .ok (.getfield 42, 3) := by decide +kernel
theorem dX7_nextWalk_53 : decode cX7_nextWalk 53 = .ok (.invokevirtual 193, 3) := by decide +kernel
theorem dX7_nextWalk_56 : decode cX7_nextWalk 56 = .ok (.ireturn, 1) := by decide +kernel
theorem dX7_walksDrawn_0 : decode cX7_walksDrawn 0 = .ok (.aload_n 0, 1) := by decide +kernel
theorem dX7_walksDrawn_1 : decode cX7_walksDrawn 1 = .ok (.getfield 184, 3) := by decide +kernel
theorem dX7_walksDrawn_4 : decode cX7_walksDrawn 4 = .ok (.invokestatic 149, 3) := by decide +kernel
theorem dX7_walksDrawn_7 : decode cX7_walksDrawn 7 = .ok (.aload_n 0, 1) := by decide +kernel
theorem dX7_walksDrawn_8 : decode cX7_walksDrawn 8 = .ok (.getfield 42, 3) := by decide +kernel
theorem dX7_walksDrawn_11 : decode cX7_walksDrawn 11 = .ok (.invokevirtual 187, 3) := by decide +kernel
theorem dX7_walksDrawn_14 : decode cX7_walksDrawn 14 = .ok (.ireturn, 1) := by decide +kernel
theorem dX7_walkEdges_0 : decode cX7_walkEdges 0 = .ok (.aload_n 0, 1) := by decide +kernel
theorem dX7_walkEdges_1 : decode cX7_walkEdges 1 = .ok (.getfield 184, 3) := by decide +kernel
theorem dX7_walkEdges_4 : decode cX7_walkEdges 4 = .ok (.invokestatic 149, 3) := by decide +kernel
theorem dX7_walkEdges_7 : decode cX7_walkEdges 7 = .ok (.aload_n 0, 1) := by decide +kernel
theorem dX7_walkEdges_8 : decode cX7_walkEdges 8 = .ok (.getfield 42, 3) := by decide +kernel
theorem dX7_walkEdges_11 : decode cX7_walkEdges 11 = .ok (.invokevirtual 187, 3) := by decide +kernel
theorem dX7_walkEdges_14 : decode cX7_walkEdges 14 = .ok (.invokestatic 167, 3) := by decide +kernel
theorem dX7_walkEdges_17 : decode cX7_walkEdges 17 = .ok (.aload_n 0, 1) := by decide +kernel
theorem dX7_walkEdges_18 : decode cX7_walkEdges 18 = .ok (.getfield 42, 3) := by decide +kernel
theorem dX7_walkEdges_21 : decode cX7_walkEdges 21 = .ok (.invokevirtual 194, 3) := by decide +kernel
theorem dX7_walkEdges_24 : decode cX7_walkEdges 24 = .ok (.ireturn, 1) := by decide +kernel
theorem dX7_walkEdge_0 : decode cX7_walkEdge 0 = .ok (.aload_n 0, 1) := by decide +kernel
theorem dX7_walkEdge_1 : decode cX7_walkEdge 1 = .ok (.getfield 184, 3) := by decide +kernel
theorem dX7_walkEdge_4 : decode cX7_walkEdge 4 = .ok (.invokestatic 149, 3) := by decide +kernel
theorem dX7_walkEdge_7 : decode cX7_walkEdge 7 = .ok (.aload_n 0, 1) := by decide +kernel
theorem dX7_walkEdge_8 : decode cX7_walkEdge 8 = .ok (.getfield 42, 3) := by decide +kernel
theorem dX7_walkEdge_11 : decode cX7_walkEdge 11 = .ok (.invokevirtual 187, 3) := by decide +kernel
theorem dX7_walkEdge_14 : decode cX7_walkEdge 14 = .ok (.invokestatic 167, 3) := by decide +kernel
theorem dX7_walkEdge_17 : decode cX7_walkEdge 17 = .ok (.aload_n 0, 1) := by decide +kernel
theorem dX7_walkEdge_18 : decode cX7_walkEdge 18 = .ok (.getfield 42, 3) := by decide +kernel
theorem dX7_walkEdge_21 : decode cX7_walkEdge 21 = .ok (.iload_n 1, 1) := by decide +kernel
theorem dX7_walkEdge_22 : decode cX7_walkEdge 22 = .ok (.invokevirtual 195, 3) := by decide +kernel
theorem dX7_walkEdge_25 : decode cX7_walkEdge 25 = .ok (.invokestatic 176, 3) := by decide +kernel
theorem dX7_walkEdge_28 : decode cX7_walkEdge 28 = .ok (.ireturn, 1) := by decide +kernel
theorem dX7_disjointPaths_0 : decode cX7_disjointPaths 0 = .ok (.aload_n 0, 1) := by decide +kernel
theorem dX7_disjointPaths_1 : decode cX7_disjointPaths 1 = .ok (.iload_n 1, 1) := by decide +kernel
theorem dX7_disjointPaths_2 : decode cX7_disjointPaths 2 = .ok (.iload_n 2, 1) := by decide +kernel
theorem dX7_disjointPaths_3 : decode cX7_disjointPaths 3 = .ok (.invokevirtual 71, 3) := by decide +kernel
theorem dX7_disjointPaths_6 : decode cX7_disjointPaths 6 = .ok (.aload_n 0, 1) := by decide +kernel
theorem dX7_disjointPaths_7 : decode cX7_disjointPaths 7 = .ok (.getfield 49, 3) := by decide +kernel
theorem dX7_disjointPaths_10 : decode cX7_disjointPaths 10 = .ok (.iload_n 1, 1) := by decide +kernel
theorem dX7_disjointPaths_11 : decode cX7_disjointPaths 11 = .ok (.iload_n 2, 1) := by decide +kernel
theorem dX7_disjointPaths_12 : decode cX7_disjointPaths 12 = .ok (.iload_n 3, 1) := by decide +kernel
theorem dX7_disjointPaths_13 : decode cX7_disjointPaths 13 = .ok (.invokevirtual 196, 3) := by decide +kernel
theorem dX7_disjointPaths_16 : decode cX7_disjointPaths 16 = .ok (.ireturn, 1) := by decide +kernel
theorem dX7_disjointLength_0 : decode cX7_disjointLength 0 = .ok (.aload_n 0, 1) := by decide +kernel
theorem dX7_disjointLength_1 : decode cX7_disjointLength 1 = .ok (.iload_n 1, 1) := by decide +kernel
theorem dX7_disjointLength_2 : decode cX7_disjointLength 2 = .ok (.iload_n 2, 1) := by decide +kernel
theorem dX7_disjointLength_3 : decode cX7_disjointLength 3 = .ok (.invokevirtual 71, 3) := by decide +kernel
theorem dX7_disjointLength_6 : decode cX7_disjointLength 6 = .ok (.iload_n 3, 1) := by decide +kernel
theorem dX7_disjointLength_7 : decode cX7_disjointLength 7 = .ok (.iconst 1, 1) := by decide +kernel
theorem dX7_disjointLength_8 : decode cX7_disjointLength 8 = .ok (.iconst 4, 1) := by decide +kernel
theorem dX7_disjointLength_9 : decode cX7_disjointLength 9 = .ok (.invokestatic 60, 3) := by decide +kernel
theorem dX7_disjointLength_12 : decode cX7_disjointLength 12 = .ok (.aload_n 0, 1) := by decide +kernel
theorem dX7_disjointLength_13 : decode cX7_disjointLength 13 = .ok (.getfield 49, 3) := by decide +kernel
theorem dX7_disjointLength_16 : decode cX7_disjointLength 16 = .ok (.iload_n 1, 1) := by decide +kernel
theorem dX7_disjointLength_17 : decode cX7_disjointLength 17 = .ok (.iload_n 2, 1) := by decide +kernel
theorem dX7_disjointLength_18 : decode cX7_disjointLength 18 = .ok (.iload_n 3, 1) := by decide +kernel
theorem dX7_disjointLength_19 : decode cX7_disjointLength 19 = .ok (.iload 4, 2) := by decide +kernel
theorem dX7_disjointLength_21 : decode cX7_disjointLength 21 = .ok (.invokevirtual 200, 3) := by decide +kernel
theorem dX7_disjointLength_24 : decode cX7_disjointLength 24 = .ok (.invokestatic 139, 3) := by decide +kernel
theorem dX7_disjointLength_27 : decode cX7_disjointLength 27 = .ok (.ireturn, 1) := by decide +kernel
theorem dX7_allowedLength_0 : decode cX7_allowedLength 0 = .ok (.aload_n 0, 1) := by decide +kernel
theorem dX7_allowedLength_1 : decode cX7_allowedLength 1 = .ok (.iload_n 1, 1) := by decide +kernel
theorem dX7_allowedLength_2 : decode cX7_allowedLength 2 = .ok (.iload_n 2, 1) := by decide +kernel
theorem dX7_allowedLength_3 : decode cX7_allowedLength 3 = .ok (.invokevirtual 101, 3) := by decide +kernel
theorem dX7_allowedLength_6 : decode cX7_allowedLength 6 = .ok (.aload_n 0, 1) := by decide +kernel
theorem dX7_allowedLength_7 : decode cX7_allowedLength 7 = .ok (.getfield 56, 3) := by decide +kernel
theorem dX7_allowedLength_10 : decode cX7_allowedLength 10 = .ok (.iload_n 1, 1) := by decide +kernel
theorem dX7_allowedLength_11 : decode cX7_allowedLength 11 = .ok (.iload_n 2, 1) := by decide +kernel
theorem dX7_allowedLength_12 : decode cX7_allowedLength 12 = .ok (.invokevirtual 204, 3) := by decide +kernel
theorem dX7_allowedLength_15 : decode cX7_allowedLength 15 = .ok (.invokestatic 139, 3) := by decide +kernel
theorem dX7_allowedLength_18 : decode cX7_allowedLength 18 = .ok (.ireturn, 1) := by decide +kernel
theorem dX7_allowedEdges_0 : decode cX7_allowedEdges 0 = .ok (.aload_n 0, 1) := by decide +kernel
theorem dX7_allowedEdges_1 : decode cX7_allowedEdges 1 = .ok (.iload_n 1, 1) := by decide +kernel
theorem dX7_allowedEdges_2 : decode cX7_allowedEdges 2 = .ok (.iload_n 2, 1) := by decide +kernel
theorem dX7_allowedEdges_3 : decode cX7_allowedEdges 3 = .ok (.invokevirtual 101, 3) := by decide +kernel
theorem dX7_allowedEdges_6 : decode cX7_allowedEdges 6 = .ok (.aload_n 0, 1) := by decide +kernel
theorem dX7_allowedEdges_7 : decode cX7_allowedEdges 7 = .ok (.getfield 56, 3) := by decide +kernel
theorem dX7_allowedEdges_10 : decode cX7_allowedEdges 10 = .ok (.iload_n 1, 1) := by decide +kernel
theorem dX7_allowedEdges_11 : decode cX7_allowedEdges 11 = .ok (.iload_n 2, 1) := by decide +kernel
theorem dX7_allowedEdges_12 : decode cX7_allowedEdges 12 = .ok (.invokevirtual 204, 3) := by decide +kernel
theorem dX7_allowedEdges_15 : decode cX7_allowedEdges 15 = .ok (.invokestatic 139, 3) := by decide +kernel
theorem dX7_allowedEdges_18 : decode cX7_allowedEdges 18 = .ok (.pop, 1) := by decide +kernel
theorem dX7_allowedEdges_19 : decode cX7_allowedEdges 19 = .ok (.aload_n 0, 1) := by decide +kernel
theorem dX7_allowedEdges_20 : decode cX7_allowedEdges 20 = .ok (.getfield 56, 3) := by decide +kernel
theorem dX7_allowedEdges_23 : decode cX7_allowedEdges 23 = .ok (.invokevirtual 207, 3) := by decide +kernel
theorem dX7_allowedEdges_26 : decode cX7_allowedEdges 26 = .ok (.ireturn, 1) := by decide +kernel
theorem dX7_allowedEdge_0 : decode cX7_allowedEdge 0 = .ok (.aload_n 0, 1) := by decide +kernel
theorem dX7_allowedEdge_1 : decode cX7_allowedEdge 1 = .ok (.iload_n 1, 1) := by decide +kernel
theorem dX7_allowedEdge_2 : decode cX7_allowedEdge 2 = .ok (.iload_n 2, 1) := by decide +kernel
theorem dX7_allowedEdge_3 : decode cX7_allowedEdge 3 = .ok (.invokevirtual 101, 3) := by decide +kernel
theorem dX7_allowedEdge_6 : decode cX7_allowedEdge 6 = .ok (.aload_n 0, 1) := by decide +kernel
theorem dX7_allowedEdge_7 : decode cX7_allowedEdge 7 = .ok (.getfield 56, 3) := by decide +kernel
theorem dX7_allowedEdge_10 : decode cX7_allowedEdge 10 = .ok (.iload_n 1, 1) := by decide +kernel
theorem dX7_allowedEdge_11 : decode cX7_allowedEdge 11 = .ok (.iload_n 2, 1) := by decide +kernel
theorem dX7_allowedEdge_12 : decode cX7_allowedEdge 12 = .ok (.invokevirtual 204, 3) := by decide +kernel
theorem dX7_allowedEdge_15 : decode cX7_allowedEdge 15 = .ok (.invokestatic 139, 3) := by decide +kernel
theorem dX7_allowedEdge_18 : decode cX7_allowedEdge 18 = .ok (.pop, 1) := by decide +kernel
theorem dX7_allowedEdge_19 : decode cX7_allowedEdge 19 = .ok (.aload_n 0, 1) := by decide +kernel
theorem dX7_allowedEdge_20 : decode cX7_allowedEdge 20 = .ok (.getfield 56, 3) := by decide +kernel
theorem dX7_allowedEdge_23 : decode cX7_allowedEdge 23 = .ok (.iload_n 3, 1) := by decide +kernel
theorem dX7_allowedEdge_24 : decode cX7_allowedEdge 24 = .ok (.invokevirtual 210, 3) := by decide +kernel
theorem dX7_allowedEdge_27 : decode cX7_allowedEdge 27 = .ok (.invokestatic 176, 3) := by decide +kernel
theorem dX7_allowedEdge_30 : decode cX7_allowedEdge 30 = .ok (.ireturn, 1) := by decide +kernel
theorem dX7_endDraws_0 : decode cX7_endDraws 0 = .ok (.aload_n 0, 1) := by decide +kernel
theorem dX7_endDraws_1 : decode cX7_endDraws 1 = .ok (.iconst 0, 1) := by decide +kernel
theorem dX7_endDraws_2 : decode cX7_endDraws 2 = .ok (.putfield 145, 3) := by decide +kernel
theorem dX7_endDraws_5 : decode cX7_endDraws 5 = .ok (.aload_n 0, 1) := by decide +kernel
theorem dX7_endDraws_6 : decode cX7_endDraws 6 = .ok (.iconst 0, 1) := by decide +kernel
theorem dX7_endDraws_7 : decode cX7_endDraws 7 = .ok (.putfield 184, 3) := by decide +kernel
theorem dX7_endDraws_10 : decode cX7_endDraws 10 = .ok (.return_, 1) := by decide +kernel
theorem dX7_requireNodes_0 : decode cX7_requireNodes 0 = .ok (.aload_n 0, 1) := by decide +kernel
theorem dX7_requireNodes_1 : decode cX7_requireNodes 1 = .ok (.getfield 10, 3) := by decide +kernel
theorem dX7_requireNodes_4 : decode cX7_requireNodes 4 = .ok (.iload_n 1, 1) := by decide +kernel
theorem dX7_requireNodes_5 : decode cX7_requireNodes 5 = .ok (.invokevirtual 213, 3) := by decide +kernel
theorem dX7_requireNodes_8 : decode cX7_requireNodes 8 = .ok (.ifCond .eq 14, 3) := by decide +kernel
theorem dX7_requireNodes_11 : decode cX7_requireNodes 11 = .ok (.aload_n 0, 1) := by decide +kernel
theorem dX7_requireNodes_12 : decode cX7_requireNodes 12 = .ok (.getfield 10, 3) := by decide +kernel
theorem dX7_requireNodes_15 : decode cX7_requireNodes 15 = .ok (.iload_n 2, 1) := by decide +kernel
theorem dX7_requireNodes_16 : decode cX7_requireNodes 16 = .ok (.invokevirtual 213, 3) := by decide +kernel
theorem dX7_requireNodes_19 : decode cX7_requireNodes 19 = .ok (.ifCond .ne 13, 3) := by decide +kernel
theorem dX7_requireNodes_22 : decode cX7_requireNodes 22 = .ok (.new 114, 3) := by decide +kernel
theorem dX7_requireNodes_25 : decode cX7_requireNodes 25 = .ok (.dup, 1) := by decide +kernel
theorem dX7_requireNodes_26 : decode cX7_requireNodes 26 = .ok (.ldc 216, 2) := by decide +kernel
theorem dX7_requireNodes_28 : decode cX7_requireNodes 28 = .ok (.invokespecial 118, 3) := by decide +kernel
theorem dX7_requireNodes_31 : decode cX7_requireNodes 31 = .ok (.athrow, 1) := by decide +kernel
theorem dX7_requireNodes_32 : decode cX7_requireNodes 32 = .ok (.return_, 1) := by decide +kernel
theorem dX7_requireTwoNodes_0 : decode cX7_requireTwoNodes 0 = .ok (.aload_n 0, 1) := by decide +kernel
theorem dX7_requireTwoNodes_1 : decode cX7_requireTwoNodes 1 = .ok (.iload_n 1, 1) := by decide +kernel
theorem dX7_requireTwoNodes_2 : decode cX7_requireTwoNodes 2 = .ok (.iload_n 2, 1) := by decide +kernel
theorem dX7_requireTwoNodes_3 : decode cX7_requireTwoNodes 3 = .ok (.invokevirtual 101, 3) := by decide +kernel
theorem dX7_requireTwoNodes_6 : decode cX7_requireTwoNodes 6 = .ok (.iload_n 1, 1) := by decide +kernel
theorem dX7_requireTwoNodes_7 : decode cX7_requireTwoNodes 7 = .ok (.iload_n 2, 1) := by decide +kernel
theorem dX7_requireTwoNodes_8 : decode cX7_requireTwoNodes 8 = .ok (.if_icmp .ne 13, 3) := by decide +kernel
theorem dX7_requireTwoNodes_11 : decode cX7_requireTwoNodes 11 = .ok (.new 114, 3) := by decide +kernel
theorem dX7_requireTwoNodes_14 : decode cX7_requireTwoNodes 14 = .ok (.dup, 1) := by decide +kernel
theorem dX7_requireTwoNodes_15 : decode cX7_requireTwoNodes 15 = .ok (.ldc 218, 2) := by decide +kernel
theorem dX7_requireTwoNodes_17 : decode cX7_requireTwoNodes 17 = .ok (.invokespecial 118, 3) := by decide +kernel
theorem dX7_requireTwoNodes_20 : decode cX7_requireTwoNodes 20 = .ok (.athrow, 1) := by decide +kernel
theorem dX7_requireTwoNodes_21 : decode cX7_requireTwoNodes 21 = .ok (.return_, 1) := by decide +kernel
theorem dX7_requireEdge_0 : decode cX7_requireEdge 0 = .ok (.aload_n 0, 1) := by decide +kernel
theorem dX7_requireEdge_1 : decode cX7_requireEdge 1 = .ok (.getfield 10, 3) := by decide +kernel
theorem dX7_requireEdge_4 : decode cX7_requireEdge 4 = .ok (.iload_n 1, 1) := by decide +kernel
theorem dX7_requireEdge_5 : decode cX7_requireEdge 5 = .ok (.invokevirtual 220, 3) := by decide +kernel
theorem dX7_requireEdge_8 : decode cX7_requireEdge 8 = .ok (.ifCond .ne 13, 3) := by decide +kernel
theorem dX7_requireEdge_11 : decode cX7_requireEdge 11 = .ok (.new 114, 3) := by decide +kernel
theorem dX7_requireEdge_14 : decode cX7_requireEdge 14 = .ok (.dup, 1) := by decide +kernel
theorem dX7_requireEdge_15 : decode cX7_requireEdge 15 = .ok (.ldc 223, 2) := by decide +kernel
theorem dX7_requireEdge_17 : decode cX7_requireEdge 17 = .ok (.invokespecial 118, 3) := by decide +kernel
theorem dX7_requireEdge_20 : decode cX7_requireEdge 20 = .ok (.athrow, 1) := by decide +kernel
theorem dX7_requireEdge_21 : decode cX7_requireEdge 21 = .ok (.return_, 1) := by decide +kernel
theorem dX7_requireRange_0 : decode cX7_requireRange 0 = .ok (.iload_n 0, 1) := by decide +kernel
theorem dX7_requireRange_1 : decode cX7_requireRange 1 = .ok (.iload_n 1, 1) := by decide +kernel
theorem dX7_requireRange_2 : decode cX7_requireRange 2 = .ok (.if_icmp .lt 8, 3) := by decide +kernel
theorem dX7_requireRange_5 : decode cX7_requireRange 5 = .ok (.iload_n 0, 1) := by decide +kernel
theorem dX7_requireRange_6 : decode cX7_requireRange 6 = .ok (.iload_n 2, 1) := by decide +kernel
theorem dX7_requireRange_7 : decode cX7_requireRange 7 = .ok (.if_icmp .le 13, 3) := by decide +kernel
theorem dX7_requireRange_10 : decode cX7_requireRange 10 = .ok (.new 114, 3) := by decide +kernel
theorem dX7_requireRange_13 : decode cX7_requireRange 13 = .ok (.dup, 1) := by decide +kernel
theorem dX7_requireRange_14 : decode cX7_requireRange 14 = .ok (.ldc 225, 2) := by decide +kernel
theorem dX7_requireRange_16 : decode cX7_requireRange 16 = .ok (.invokespecial 118, 3) := by decide +kernel
theorem dX7_requireRange_19 : decode cX7_requireRange 19 = .ok (.athrow, 1) := by decide +kernel
theorem dX7_requireRange_20 : decode cX7_requireRange 20 = .ok (.return_, 1) := by decide +kernel
theorem dX7_requireStarted_0 : decode cX7_requireStarted 0 = .ok (.iload_n 0, 1) := by decide +kernel
theorem dX7_requireStarted_1 : decode cX7_requireStarted 1 = .ok (.ifCond .ne 13, 3) := by decide +kernel
theorem dX7_requireStarted_4 : decode cX7_requireStarted 4 = .ok (.new 79, 3) := by decide +kernel
theorem dX7_requireStarted_7 : decode cX7_requireStarted 7 = .ok (.dup, 1) := by decide +kernel
theorem dX7_requireStarted_8 : decode cX7_requireStarted 8 = .ok (.ldc 227, 2) := by decide +kernel
theorem dX7_requireStarted_10 : decode cX7_requireStarted 10 = .ok (.invokespecial 83, 3) := by decide +kernel
theorem dX7_requireStarted_13 : decode cX7_requireStarted 13 = .ok (.athrow, 1) := by decide +kernel
theorem dX7_requireStarted_14 : decode cX7_requireStarted 14 = .ok (.return_, 1) := by decide +kernel
theorem dX7_requireDrawn_0 : decode cX7_requireDrawn 0 = .ok (.iload_n 0, 1) := by decide +kernel
theorem dX7_requireDrawn_1 : decode cX7_requireDrawn 1 = .ok (.ifCond .ne 13, 3) := by decide +kernel
theorem dX7_requireDrawn_4 : decode cX7_requireDrawn 4 = .ok (.new 156, 3) := by decide +kernel
theorem dX7_requireDrawn_7 : decode cX7_requireDrawn 7 = .ok (.dup, 1) := by decide +kernel
theorem dX7_requireDrawn_8 : decode cX7_requireDrawn 8 = .ok (.ldc 229, 2) := by decide +kernel
theorem dX7_requireDrawn_10 : decode cX7_requireDrawn 10 = .ok (.invokespecial 160, 3) := by decide +kernel
theorem dX7_requireDrawn_13 : decode cX7_requireDrawn 13 = .ok (.athrow, 1) := by decide +kernel
theorem dX7_requireDrawn_14 : decode cX7_requireDrawn 14 = .ok (.return_, 1) := by decide +kernel
theorem dX7_requireListed_0 : decode cX7_requireListed 0 = .ok (.iload_n 0, 1) := by decide +kernel
theorem dX7_requireListed_1 : decode cX7_requireListed 1 = .ok (.iconst (-1), 1) := by decide +kernel
theorem dX7_requireListed_2 : decode cX7_requireListed 2 = .ok (.if_icmp .ne 13, 3) := by decide +kernel
theorem dX7_requireListed_5 : decode cX7_requireListed 5 = .ok (.new 156, 3) := by decide +kernel
theorem dX7_requireListed_8 : decode cX7_requireListed 8 = .ok (.dup, 1) := by decide +kernel
theorem dX7_requireListed_9 : decode cX7_requireListed 9 = .ok (.ldc 231, 2) := by decide +kernel
theorem dX7_requireListed_11 : decode cX7_requireListed 11 = .ok (.invokespecial 160, 3) := by decide +kernel
theorem dX7_requireListed_14 : decode cX7_requireListed 14 = .ok (.athrow, 1) := by decide +kernel
theorem dX7_requireListed_15 : decode cX7_requireListed 15 = .ok (.iload_n 0, 1) := by decide +kernel
theorem dX7_requireListed_16 : decode cX7_requireListed 16 = .ok (.ireturn, 1) := by decide +kernel
theorem dX7_requireWay_0 : decode cX7_requireWay 0 = .ok (.iload_n 0, 1) := by decide +kernel
theorem dX7_requireWay_1 : decode cX7_requireWay 1 = .ok (.ldc 233, 2) := by decide +kernel
theorem dX7_requireWay_3 : decode cX7_requireWay 3 = .ok (.if_icmp .lt 13, 3) := by decide +kernel
theorem dX7_requireWay_6 : decode cX7_requireWay 6 = .ok (.new 156, 3) := by decide +kernel
theorem dX7_requireWay_9 : decode cX7_requireWay 9 = .ok (.dup, 1) := by decide +kernel
theorem dX7_requireWay_10 : decode cX7_requireWay 10 = .ok (.ldc 234, 2) := by decide +kernel
theorem dX7_requireWay_12 : decode cX7_requireWay 12 = .ok (.invokespecial 160, 3) := by decide +kernel
theorem dX7_requireWay_15 : decode cX7_requireWay 15 = .ok (.athrow, 1) := by decide +kernel
theorem dX7_requireWay_16 : decode cX7_requireWay 16 = .ok (.iload_n 0, 1) := by decide +kernel
theorem dX7_requireWay_17 : decode cX7_requireWay 17 = .ok (.ireturn, 1) := by decide +kernel
theorem dX7_at_0 : decode cX7_at 0 = .ok (.iload_n 1, 1) := by decide +kernel
theorem dX7_at_1 : decode cX7_at 1 = .ok (.ifCond .lt 15, 3) := by decide +kernel
theorem dX7_at_4 : decode cX7_at 4 = .ok (.iload_n 1, 1) := by decide +kernel
theorem dX7_at_5 : decode cX7_at 5 = .ok (.aload_n 0, 1) := by decide +kernel
theorem dX7_at_6 : decode cX7_at 6 = .ok (.arraylength, 1) := by decide +kernel
theorem dX7_at_7 : decode cX7_at 7 = .ok (.if_icmp .ge 9, 3) := by decide +kernel
theorem dX7_at_10 : decode cX7_at 10 = .ok (.aload_n 0, 1) := by decide +kernel
theorem dX7_at_11 : decode cX7_at 11 = .ok (.iload_n 1, 1) := by decide +kernel
theorem dX7_at_12 : decode cX7_at 12 = .ok (.iaload, 1) := by decide +kernel
theorem dX7_at_13 : decode cX7_at 13 = .ok (.goto 4, 3) := by decide +kernel
theorem dX7_at_16 : decode cX7_at 16 = .ok (.iconst 0, 1) := by decide +kernel
theorem dX7_at_17 : decode cX7_at 17 = .ok (.ireturn, 1) := by decide +kernel
theorem dX7_put_0 : decode cX7_put 0 = .ok (.iload_n 1, 1) := by decide +kernel
theorem dX7_put_1 : decode cX7_put 1 = .ok (.ifCond .lt 13, 3) := by decide +kernel
theorem dX7_put_4 : decode cX7_put 4 = .ok (.iload_n 1, 1) := by decide +kernel
theorem dX7_put_5 : decode cX7_put 5 = .ok (.aload_n 0, 1) := by decide +kernel
theorem dX7_put_6 : decode cX7_put 6 = .ok (.arraylength, 1) := by decide +kernel
theorem dX7_put_7 : decode cX7_put 7 = .ok (.if_icmp .ge 7, 3) := by decide +kernel
theorem dX7_put_10 : decode cX7_put 10 = .ok (.aload_n 0, 1) := by decide +kernel
theorem dX7_put_11 : decode cX7_put 11 = .ok (.iload_n 1, 1) := by decide +kernel
theorem dX7_put_12 : decode cX7_put 12 = .ok (.iload_n 2, 1) := by decide +kernel
theorem dX7_put_13 : decode cX7_put 13 = .ok (.iastore, 1) := by decide +kernel
theorem dX7_put_14 : decode cX7_put 14 = .ok (.return_, 1) := by decide +kernel
theorem dX7_at__0 : decode cX7_at_ 0 = .ok (.iload_n 1, 1) := by decide +kernel
theorem dX7_at__1 : decode cX7_at_ 1 = .ok (.ifCond .lt 15, 3) := by decide +kernel
theorem dX7_at__4 : decode cX7_at_ 4 = .ok (.iload_n 1, 1) := by decide +kernel
theorem dX7_at__5 : decode cX7_at_ 5 = .ok (.aload_n 0, 1) := by decide +kernel
theorem dX7_at__6 : decode cX7_at_ 6 = .ok (.arraylength, 1) := by decide +kernel
theorem dX7_at__7 : decode cX7_at_ 7 = .ok (.if_icmp .ge 9, 3) := by decide +kernel
theorem dX7_at__10 : decode cX7_at_ 10 = .ok (.aload_n 0, 1) := by decide +kernel
theorem dX7_at__11 : decode cX7_at_ 11 = .ok (.iload_n 1, 1) := by decide +kernel
theorem dX7_at__12 : decode cX7_at_ 12 = .ok (.laload, 1) := by decide +kernel
theorem dX7_at__13 : decode cX7_at_ 13 = .ok (.goto 4, 3) := by decide +kernel
theorem dX7_at__16 : decode cX7_at_ 16 = .ok (.lconst 0, 1) := by decide +kernel
theorem dX7_at__17 : decode cX7_at_ 17 = .ok (.lreturn, 1) := by decide +kernel
theorem dX7_put__0 : decode cX7_put_ 0 = .ok (.iload_n 1, 1) := by decide +kernel
theorem dX7_put__1 : decode cX7_put_ 1 = .ok (.ifCond .lt 13, 3) := by decide +kernel
theorem dX7_put__4 : decode cX7_put_ 4 = .ok (.iload_n 1, 1) := by decide +kernel
theorem dX7_put__5 : decode cX7_put_ 5 = .ok (.aload_n 0, 1) := by decide +kernel
theorem dX7_put__6 : decode cX7_put_ 6 = .ok (.arraylength, 1) := by decide +kernel
theorem dX7_put__7 : decode cX7_put_ 7 = .ok (.if_icmp .ge 7, 3) := by decide +kernel
theorem dX7_put__10 : decode cX7_put_ 10 = .ok (.aload_n 0, 1) := by decide +kernel
theorem dX7_put__11 : decode cX7_put_ 11 = .ok (.iload_n 1, 1) := by decide +kernel
theorem dX7_put__12 : decode cX7_put_ 12 = .ok (.lload_n 2, 1) := by decide +kernel
theorem dX7_put__13 : decode cX7_put_ 13 = .ok (.lastore, 1) := by decide +kernel
theorem dX7_put__14 : decode cX7_put_ 14 = .ok (.return_, 1) := by decide +kernel
theorem dX7_hasBit_0 : decode cX7_hasBit 0 = .ok (.iload_n 0, 1) := by decide +kernel
theorem dX7_hasBit_1 : decode cX7_hasBit 1 = .ok (.iload_n 1, 1) := by decide +kernel
theorem dX7_hasBit_2 : decode cX7_hasBit 2 = .ok (.iushr, 1) := by decide +kernel
theorem dX7_hasBit_3 : decode cX7_hasBit 3 = .ok (.iconst 1, 1) := by decide +kernel
theorem dX7_hasBit_4 : decode cX7_hasBit 4 = .ok (.iand, 1) := by decide +kernel
theorem dX7_hasBit_5 : decode cX7_hasBit 5 = .ok (.ifCond .eq 7, 3) := by decide +kernel
theorem dX7_hasBit_8 : decode cX7_hasBit 8 = .ok (.iconst 1, 1) := by decide +kernel
theorem dX7_hasBit_9 : decode cX7_hasBit 9 = .ok (.goto 4, 3) := by decide +kernel
theorem dX7_hasBit_12 : decode cX7_hasBit 12 = .ok (.iconst 0, 1) := by decide +kernel
theorem dX7_hasBit_13 : decode cX7_hasBit 13 = .ok (.ireturn, 1) := by decide +kernel
theorem dJ9_min_7cf53_0 : decode cJ9_min_7cf53 0 = .ok (.iload_n 0, 1) := by decide +kernel
theorem dJ9_min_7cf53_1 : decode cJ9_min_7cf53 1 = .ok (.iload_n 1, 1) := by decide +kernel
theorem dJ9_min_7cf53_2 : decode cJ9_min_7cf53 2 = .ok (.if_icmp .gt 7, 3) := by decide +kernel
theorem dJ9_min_7cf53_5 : decode cJ9_min_7cf53 5 = .ok (.iload_n 0, 1) := by decide +kernel
theorem dJ9_min_7cf53_6 : decode cJ9_min_7cf53 6 = .ok (.goto 4, 3) := by decide +kernel
theorem dJ9_min_7cf53_9 : decode cJ9_min_7cf53 9 = .ok (.iload_n 1, 1) := by decide +kernel
theorem dJ9_min_7cf53_10 : decode cJ9_min_7cf53 10 = .ok (.ireturn, 1) := by decide +kernel
theorem dJ7_fill_53178_0 : decode cJ7_fill_53178 0 = .ok (.iconst 0, 1) := by decide +kernel
theorem dJ7_fill_53178_1 : decode cJ7_fill_53178 1 = .ok (.istore_n 2, 1) := by decide +kernel
theorem dJ7_fill_53178_2 : decode cJ7_fill_53178 2 = .ok (.aload_n 0, 1) := by decide +kernel
theorem dJ7_fill_53178_3 : decode cJ7_fill_53178 3 = .ok (.arraylength, 1) := by decide +kernel
theorem dJ7_fill_53178_4 : decode cJ7_fill_53178 4 = .ok (.istore_n 3, 1) := by decide +kernel
theorem dJ7_fill_53178_5 : decode cJ7_fill_53178 5 = .ok (.iload_n 2, 1) := by decide +kernel
theorem dJ7_fill_53178_6 : decode cJ7_fill_53178 6 = .ok (.iload_n 3, 1) := by decide +kernel
theorem dJ7_fill_53178_7 : decode cJ7_fill_53178 7 = .ok (.if_icmp .ge 13, 3) := by decide +kernel
theorem dJ7_fill_53178_10 : decode cJ7_fill_53178 10 = .ok (.aload_n 0, 1) := by decide +kernel
theorem dJ7_fill_53178_11 : decode cJ7_fill_53178 11 = .ok (.iload_n 2, 1) := by decide +kernel
theorem dJ7_fill_53178_12 : decode cJ7_fill_53178 12 = .ok (.iload_n 1, 1) := by decide +kernel
theorem dJ7_fill_53178_13 : decode cJ7_fill_53178 13 = .ok (.iastore, 1) := by decide +kernel
theorem dJ7_fill_53178_14 : decode cJ7_fill_53178 14 = .ok (.iinc 2 1, 3) := by decide +kernel
theorem dJ7_fill_53178_17 : decode cJ7_fill_53178 17 = .ok (.goto (-12), 3) := by decide +kernel
theorem dJ7_fill_53178_20 : decode cJ7_fill_53178 20 = .ok (.return_, 1) := by decide +kernel
abbrev vwCl : List vw_C := [(RX0, TX0, 4), (RX1, TX1, 10), (RX2, TX2, 2), (RX3, TX3, 10), (RX4, TX4, 3), (RX5, TX5, 9), (RX6, TX6, 9), (RX7, TX7, 9)]
