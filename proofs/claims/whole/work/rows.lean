section
-- ===== PART A: goes FIRST, ahead of the names: the tables' words, and 'selects' of the private methods out of them =====
/-- a private method of a class that the tables say can be made, by its rows of tables_1 -/
def lw_okq (q : MethodName × Nat) : Prop := (q.1.cls ≠ "java/lang/invoke/MethodHandle" ∧ q.1.cls ≠ "java/lang/invoke/VarHandle") ∧ Cond.instantiable q.1.cls q.2 ∈ tables_1 ∧ Cond.privateMethod q.1 ∈ tables_1 ∧ Cond.instanceMethod q.1 ∈ tables_1
theorem lw_p0 : lw_okq (⟨"java/lang/Throwable", "fillInStackTrace", "(I)Ljava/lang/Throwable;"⟩, 6) := ⟨⟨by decide +kernel, by decide +kernel⟩, List.mem_of_getElem? (i := 327) (by decide +kernel), List.mem_of_getElem? (i := 325) (by decide +kernel), List.mem_of_getElem? (i := 326) (by decide +kernel)⟩
theorem lw_p1 : lw_okq (⟨"Pathparade$Network", "listOutEdges", "()V"⟩, 10) := ⟨⟨by decide +kernel, by decide +kernel⟩, List.mem_of_getElem? (i := 27) (by decide +kernel), List.mem_of_getElem? (i := 364) (by decide +kernel), List.mem_of_getElem? (i := 365) (by decide +kernel)⟩
theorem lw_p2 : lw_okq (⟨"Pathparade$Network", "isUsable", "(I)Z"⟩, 10) := ⟨⟨by decide +kernel, by decide +kernel⟩, List.mem_of_getElem? (i := 27) (by decide +kernel), List.mem_of_getElem? (i := 375) (by decide +kernel), List.mem_of_getElem? (i := 376) (by decide +kernel)⟩
theorem lw_p3 : lw_okq (⟨"Pathparade", "endDraws", "()V"⟩, 9) := ⟨⟨by decide +kernel, by decide +kernel⟩, List.mem_of_getElem? (i := 19) (by decide +kernel), List.mem_of_getElem? (i := 386) (by decide +kernel), List.mem_of_getElem? (i := 387) (by decide +kernel)⟩
theorem lw_p4 : lw_okq (⟨"Pathparade", "requireTwoNodes", "(II)V"⟩, 9) := ⟨⟨by decide +kernel, by decide +kernel⟩, List.mem_of_getElem? (i := 19) (by decide +kernel), List.mem_of_getElem? (i := 398) (by decide +kernel), List.mem_of_getElem? (i := 399) (by decide +kernel)⟩
theorem lw_p5 : lw_okq (⟨"Pathparade", "requireNodes", "(II)V"⟩, 9) := ⟨⟨by decide +kernel, by decide +kernel⟩, List.mem_of_getElem? (i := 19) (by decide +kernel), List.mem_of_getElem? (i := 402) (by decide +kernel), List.mem_of_getElem? (i := 403) (by decide +kernel)⟩
theorem lw_p6 : lw_okq (⟨"Pathparade", "requireEdge", "(I)V"⟩, 9) := ⟨⟨by decide +kernel, by decide +kernel⟩, List.mem_of_getElem? (i := 19) (by decide +kernel), List.mem_of_getElem? (i := 443) (by decide +kernel), List.mem_of_getElem? (i := 444) (by decide +kernel)⟩
theorem lw_p7 : lw_okq (⟨"Pathparade$Distances", "shortenAll", "()Z"⟩, 2) := ⟨⟨by decide +kernel, by decide +kernel⟩, List.mem_of_getElem? (i := 65) (by decide +kernel), List.mem_of_getElem? (i := 515) (by decide +kernel), List.mem_of_getElem? (i := 516) (by decide +kernel)⟩
theorem lw_p8 : lw_okq (⟨"Pathparade$PathDraw", "turnPage", "()V"⟩, 9) := ⟨⟨by decide +kernel, by decide +kernel⟩, List.mem_of_getElem? (i := 78) (by decide +kernel), List.mem_of_getElem? (i := 579) (by decide +kernel), List.mem_of_getElem? (i := 580) (by decide +kernel)⟩
theorem lw_p9 : lw_okq (⟨"Pathparade$PathDraw", "keep", "(J)V"⟩, 9) := ⟨⟨by decide +kernel, by decide +kernel⟩, List.mem_of_getElem? (i := 78) (by decide +kernel), List.mem_of_getElem? (i := 604) (by decide +kernel), List.mem_of_getElem? (i := 605) (by decide +kernel)⟩
theorem lw_p10 : lw_okq (⟨"Pathparade$PathDraw", "fits", "(J)Z"⟩, 9) := ⟨⟨by decide +kernel, by decide +kernel⟩, List.mem_of_getElem? (i := 78) (by decide +kernel), List.mem_of_getElem? (i := 608) (by decide +kernel), List.mem_of_getElem? (i := 609) (by decide +kernel)⟩
theorem lw_p11 : lw_okq (⟨"Pathparade$PathDraw", "leadsOn", "(IJ)Z"⟩, 9) := ⟨⟨by decide +kernel, by decide +kernel⟩, List.mem_of_getElem? (i := 78) (by decide +kernel), List.mem_of_getElem? (i := 622) (by decide +kernel), List.mem_of_getElem? (i := 623) (by decide +kernel)⟩
theorem lw_p12 : lw_okq (⟨"Pathparade$WalkDraw", "list", "(IIIII)V"⟩, 9) := ⟨⟨by decide +kernel, by decide +kernel⟩, List.mem_of_getElem? (i := 133) (by decide +kernel), List.mem_of_getElem? (i := 711) (by decide +kernel), List.mem_of_getElem? (i := 712) (by decide +kernel)⟩
theorem lw_p13 : lw_okq (⟨"Pathparade$WalkDraw", "shortestEdge", "()I"⟩, 9) := ⟨⟨by decide +kernel, by decide +kernel⟩, List.mem_of_getElem? (i := 133) (by decide +kernel), List.mem_of_getElem? (i := 736) (by decide +kernel), List.mem_of_getElem? (i := 737) (by decide +kernel)⟩
theorem lw_p14 : lw_okq (⟨"Pathparade$WalkDraw", "putAhead", "(I)V"⟩, 9) := ⟨⟨by decide +kernel, by decide +kernel⟩, List.mem_of_getElem? (i := 133) (by decide +kernel), List.mem_of_getElem? (i := 746) (by decide +kernel), List.mem_of_getElem? (i := 747) (by decide +kernel)⟩
theorem lw_p15 : lw_okq (⟨"Pathparade$WalkDraw", "currentEntry", "()I"⟩, 9) := ⟨⟨by decide +kernel, by decide +kernel⟩, List.mem_of_getElem? (i := 133) (by decide +kernel), List.mem_of_getElem? (i := 755) (by decide +kernel), List.mem_of_getElem? (i := 756) (by decide +kernel)⟩
def lw_privs_1 : List (MethodName × Nat) := [(⟨"java/lang/Throwable", "fillInStackTrace", "(I)Ljava/lang/Throwable;"⟩, 6), (⟨"Pathparade$Network", "listOutEdges", "()V"⟩, 10), (⟨"Pathparade$Network", "isUsable", "(I)Z"⟩, 10), (⟨"Pathparade", "endDraws", "()V"⟩, 9), (⟨"Pathparade", "requireTwoNodes", "(II)V"⟩, 9), (⟨"Pathparade", "requireNodes", "(II)V"⟩, 9), (⟨"Pathparade", "requireEdge", "(I)V"⟩, 9), (⟨"Pathparade$Distances", "shortenAll", "()Z"⟩, 2), (⟨"Pathparade$PathDraw", "turnPage", "()V"⟩, 9), (⟨"Pathparade$PathDraw", "keep", "(J)V"⟩, 9), (⟨"Pathparade$PathDraw", "fits", "(J)Z"⟩, 9), (⟨"Pathparade$PathDraw", "leadsOn", "(IJ)Z"⟩, 9), (⟨"Pathparade$WalkDraw", "list", "(IIIII)V"⟩, 9), (⟨"Pathparade$WalkDraw", "shortestEdge", "()I"⟩, 9), (⟨"Pathparade$WalkDraw", "putAhead", "(I)V"⟩, 9), (⟨"Pathparade$WalkDraw", "currentEntry", "()I"⟩, 9)]
theorem lw_r1 : ∀ q ∈ lw_privs_1, lw_okq q := List.forall_mem_cons.mpr ⟨lw_p0, List.forall_mem_cons.mpr ⟨lw_p1, List.forall_mem_cons.mpr ⟨lw_p2, List.forall_mem_cons.mpr ⟨lw_p3, List.forall_mem_cons.mpr ⟨lw_p4, List.forall_mem_cons.mpr ⟨lw_p5, List.forall_mem_cons.mpr ⟨lw_p6, List.forall_mem_cons.mpr ⟨lw_p7, List.forall_mem_cons.mpr ⟨lw_p8, List.forall_mem_cons.mpr ⟨lw_p9, List.forall_mem_cons.mpr ⟨lw_p10, List.forall_mem_cons.mpr ⟨lw_p11, List.forall_mem_cons.mpr ⟨lw_p12, List.forall_mem_cons.mpr ⟨lw_p13, List.forall_mem_cons.mpr ⟨lw_p14, List.forall_mem_cons.mpr ⟨lw_p15, fun _ h => absurd h List.not_mem_nil⟩⟩⟩⟩⟩⟩⟩⟩⟩⟩⟩⟩⟩⟩⟩⟩
theorem lw_p16 : lw_okq (⟨"Pathparade$DisjointFlow", "layArcs", "(IIZ)V"⟩, 10) := ⟨⟨by decide +kernel, by decide +kernel⟩, List.mem_of_getElem? (i := 167) (by decide +kernel), List.mem_of_getElem? (i := 800) (by decide +kernel), List.mem_of_getElem? (i := 801) (by decide +kernel)⟩
theorem lw_p17 : lw_okq (⟨"Pathparade$DisjointFlow", "layArc", "(IIII)V"⟩, 10) := ⟨⟨by decide +kernel, by decide +kernel⟩, List.mem_of_getElem? (i := 167) (by decide +kernel), List.mem_of_getElem? (i := 815) (by decide +kernel), List.mem_of_getElem? (i := 816) (by decide +kernel)⟩
theorem lw_p18 : lw_okq (⟨"Pathparade$DisjointFlow", "addPath", "()I"⟩, 10) := ⟨⟨by decide +kernel, by decide +kernel⟩, List.mem_of_getElem? (i := 167) (by decide +kernel), List.mem_of_getElem? (i := 821) (by decide +kernel), List.mem_of_getElem? (i := 822) (by decide +kernel)⟩
theorem lw_p19 : lw_okq (⟨"Pathparade$DisjointFlow", "cheapenAll", "()Z"⟩, 10) := ⟨⟨by decide +kernel, by decide +kernel⟩, List.mem_of_getElem? (i := 167) (by decide +kernel), List.mem_of_getElem? (i := 826) (by decide +kernel), List.mem_of_getElem? (i := 827) (by decide +kernel)⟩
theorem lw_p20 : lw_okq (⟨"Pathparade$DisjointFlow", "reach", "(IIII)Z"⟩, 10) := ⟨⟨by decide +kernel, by decide +kernel⟩, List.mem_of_getElem? (i := 167) (by decide +kernel), List.mem_of_getElem? (i := 831) (by decide +kernel), List.mem_of_getElem? (i := 832) (by decide +kernel)⟩
theorem lw_p21 : lw_okq (⟨"Pathparade$DisjointFlow", "send", "()V"⟩, 10) := ⟨⟨by decide +kernel, by decide +kernel⟩, List.mem_of_getElem? (i := 167) (by decide +kernel), List.mem_of_getElem? (i := 835) (by decide +kernel), List.mem_of_getElem? (i := 836) (by decide +kernel)⟩
theorem lw_p22 : lw_okq (⟨"Pathparade$AllowedWalk", "measureTo", "(I)V"⟩, 4) := ⟨⟨by decide +kernel, by decide +kernel⟩, List.mem_of_getElem? (i := 204) (by decide +kernel), List.mem_of_getElem? (i := 861) (by decide +kernel), List.mem_of_getElem? (i := 862) (by decide +kernel)⟩
theorem lw_p23 : lw_okq (⟨"Pathparade$AllowedWalk", "shortenAll", "(I)Z"⟩, 4) := ⟨⟨by decide +kernel, by decide +kernel⟩, List.mem_of_getElem? (i := 204) (by decide +kernel), List.mem_of_getElem? (i := 867) (by decide +kernel), List.mem_of_getElem? (i := 868) (by decide +kernel)⟩
theorem lw_p24 : lw_okq (⟨"Pathparade$AllowedWalk", "bestAfter", "(II)I"⟩, 4) := ⟨⟨by decide +kernel, by decide +kernel⟩, List.mem_of_getElem? (i := 204) (by decide +kernel), List.mem_of_getElem? (i := 874) (by decide +kernel), List.mem_of_getElem? (i := 875) (by decide +kernel)⟩
theorem lw_p25 : lw_okq (⟨"Pathparade$AllowedWalk", "lengthFrom", "(I)I"⟩, 4) := ⟨⟨by decide +kernel, by decide +kernel⟩, List.mem_of_getElem? (i := 204) (by decide +kernel), List.mem_of_getElem? (i := 881) (by decide +kernel), List.mem_of_getElem? (i := 882) (by decide +kernel)⟩
theorem lw_p26 : lw_okq (⟨"PathparadeModel", "holds", "(I)Z"⟩, 44) := ⟨⟨by decide +kernel, by decide +kernel⟩, List.mem_of_getElem? (i := 910) (by decide +kernel), List.mem_of_getElem? (i := 1061) (by decide +kernel), List.mem_of_getElem? (i := 1062) (by decide +kernel)⟩
theorem lw_p27 : lw_okq (⟨"PathparadeModel", "isChanged", "()V"⟩, 44) := ⟨⟨by decide +kernel, by decide +kernel⟩, List.mem_of_getElem? (i := 910) (by decide +kernel), List.mem_of_getElem? (i := 1065) (by decide +kernel), List.mem_of_getElem? (i := 1066) (by decide +kernel)⟩
theorem lw_p28 : lw_okq (⟨"PathparadeModel", "areTwo", "(II)Z"⟩, 44) := ⟨⟨by decide +kernel, by decide +kernel⟩, List.mem_of_getElem? (i := 910) (by decide +kernel), List.mem_of_getElem? (i := 1073) (by decide +kernel), List.mem_of_getElem? (i := 1074) (by decide +kernel)⟩
theorem lw_p29 : lw_okq (⟨"PathparadeModel", "areNodes", "(II)Z"⟩, 44) := ⟨⟨by decide +kernel, by decide +kernel⟩, List.mem_of_getElem? (i := 910) (by decide +kernel), List.mem_of_getElem? (i := 1077) (by decide +kernel), List.mem_of_getElem? (i := 1078) (by decide +kernel)⟩
theorem lw_p30 : lw_okq (⟨"PathparadeModel", "isNode", "(I)Z"⟩, 44) := ⟨⟨by decide +kernel, by decide +kernel⟩, List.mem_of_getElem? (i := 910) (by decide +kernel), List.mem_of_getElem? (i := 1081) (by decide +kernel), List.mem_of_getElem? (i := 1082) (by decide +kernel)⟩
theorem lw_p31 : lw_okq (⟨"PathparadeModel", "isEdge", "(I)Z"⟩, 44) := ⟨⟨by decide +kernel, by decide +kernel⟩, List.mem_of_getElem? (i := 910) (by decide +kernel), List.mem_of_getElem? (i := 1089) (by decide +kernel), List.mem_of_getElem? (i := 1090) (by decide +kernel)⟩
def lw_privs_2 : List (MethodName × Nat) := [(⟨"Pathparade$DisjointFlow", "layArcs", "(IIZ)V"⟩, 10), (⟨"Pathparade$DisjointFlow", "layArc", "(IIII)V"⟩, 10), (⟨"Pathparade$DisjointFlow", "addPath", "()I"⟩, 10), (⟨"Pathparade$DisjointFlow", "cheapenAll", "()Z"⟩, 10), (⟨"Pathparade$DisjointFlow", "reach", "(IIII)Z"⟩, 10), (⟨"Pathparade$DisjointFlow", "send", "()V"⟩, 10), (⟨"Pathparade$AllowedWalk", "measureTo", "(I)V"⟩, 4), (⟨"Pathparade$AllowedWalk", "shortenAll", "(I)Z"⟩, 4), (⟨"Pathparade$AllowedWalk", "bestAfter", "(II)I"⟩, 4), (⟨"Pathparade$AllowedWalk", "lengthFrom", "(I)I"⟩, 4), (⟨"PathparadeModel", "holds", "(I)Z"⟩, 44), (⟨"PathparadeModel", "isChanged", "()V"⟩, 44), (⟨"PathparadeModel", "areTwo", "(II)Z"⟩, 44), (⟨"PathparadeModel", "areNodes", "(II)Z"⟩, 44), (⟨"PathparadeModel", "isNode", "(I)Z"⟩, 44), (⟨"PathparadeModel", "isEdge", "(I)Z"⟩, 44)]
theorem lw_r2 : ∀ q ∈ lw_privs_2, lw_okq q := List.forall_mem_cons.mpr ⟨lw_p16, List.forall_mem_cons.mpr ⟨lw_p17, List.forall_mem_cons.mpr ⟨lw_p18, List.forall_mem_cons.mpr ⟨lw_p19, List.forall_mem_cons.mpr ⟨lw_p20, List.forall_mem_cons.mpr ⟨lw_p21, List.forall_mem_cons.mpr ⟨lw_p22, List.forall_mem_cons.mpr ⟨lw_p23, List.forall_mem_cons.mpr ⟨lw_p24, List.forall_mem_cons.mpr ⟨lw_p25, List.forall_mem_cons.mpr ⟨lw_p26, List.forall_mem_cons.mpr ⟨lw_p27, List.forall_mem_cons.mpr ⟨lw_p28, List.forall_mem_cons.mpr ⟨lw_p29, List.forall_mem_cons.mpr ⟨lw_p30, List.forall_mem_cons.mpr ⟨lw_p31, fun _ h => absurd h List.not_mem_nil⟩⟩⟩⟩⟩⟩⟩⟩⟩⟩⟩⟩⟩⟩⟩⟩
theorem lw_p32 : lw_okq (⟨"PathparadeModel", "isUsable", "(I)Z"⟩, 44) := ⟨⟨by decide +kernel, by decide +kernel⟩, List.mem_of_getElem? (i := 910) (by decide +kernel), List.mem_of_getElem? (i := 1117) (by decide +kernel), List.mem_of_getElem? (i := 1118) (by decide +kernel)⟩
theorem lw_p33 : lw_okq (⟨"PathparadeModel", "shortest", "(II)I"⟩, 44) := ⟨⟨by decide +kernel, by decide +kernel⟩, List.mem_of_getElem? (i := 910) (by decide +kernel), List.mem_of_getElem? (i := 1125) (by decide +kernel), List.mem_of_getElem? (i := 1126) (by decide +kernel)⟩
theorem lw_p34 : lw_okq (⟨"PathparadeModel", "goesAlong", "(IIIZ)I"⟩, 44) := ⟨⟨by decide +kernel, by decide +kernel⟩, List.mem_of_getElem? (i := 910) (by decide +kernel), List.mem_of_getElem? (i := 1138) (by decide +kernel), List.mem_of_getElem? (i := 1139) (by decide +kernel)⟩
theorem lw_p35 : lw_okq (⟨"PathparadeModel", "goesOn", "(III)Z"⟩, 44) := ⟨⟨by decide +kernel, by decide +kernel⟩, List.mem_of_getElem? (i := 910) (by decide +kernel), List.mem_of_getElem? (i := 1142) (by decide +kernel), List.mem_of_getElem? (i := 1143) (by decide +kernel)⟩
theorem lw_p36 : lw_okq (⟨"PathparadeModel", "meets", "(II)V"⟩, 44) := ⟨⟨by decide +kernel, by decide +kernel⟩, List.mem_of_getElem? (i := 910) (by decide +kernel), List.mem_of_getElem? (i := 1146) (by decide +kernel), List.mem_of_getElem? (i := 1147) (by decide +kernel)⟩
theorem lw_p37 : lw_okq (⟨"PathparadeModel", "isBehind", "(I)Z"⟩, 44) := ⟨⟨by decide +kernel, by decide +kernel⟩, List.mem_of_getElem? (i := 910) (by decide +kernel), List.mem_of_getElem? (i := 1150) (by decide +kernel), List.mem_of_getElem? (i := 1151) (by decide +kernel)⟩
theorem lw_p38 : lw_okq (⟨"PathparadeModel", "laysFirsts", "(I)V"⟩, 44) := ⟨⟨by decide +kernel, by decide +kernel⟩, List.mem_of_getElem? (i := 910) (by decide +kernel), List.mem_of_getElem? (i := 1175) (by decide +kernel), List.mem_of_getElem? (i := 1176) (by decide +kernel)⟩
theorem lw_p39 : lw_okq (⟨"PathparadeModel", "waitsAt", "(II)V"⟩, 44) := ⟨⟨by decide +kernel, by decide +kernel⟩, List.mem_of_getElem? (i := 910) (by decide +kernel), List.mem_of_getElem? (i := 1179) (by decide +kernel), List.mem_of_getElem? (i := 1180) (by decide +kernel)⟩
theorem lw_p40 : lw_okq (⟨"PathparadeModel", "laysWalk", "(II)V"⟩, 44) := ⟨⟨by decide +kernel, by decide +kernel⟩, List.mem_of_getElem? (i := 910) (by decide +kernel), List.mem_of_getElem? (i := 1187) (by decide +kernel), List.mem_of_getElem? (i := 1188) (by decide +kernel)⟩
theorem lw_p41 : lw_okq (⟨"PathparadeModel", "leads", "(III)I"⟩, 44) := ⟨⟨by decide +kernel, by decide +kernel⟩, List.mem_of_getElem? (i := 910) (by decide +kernel), List.mem_of_getElem? (i := 1191) (by decide +kernel), List.mem_of_getElem? (i := 1192) (by decide +kernel)⟩
theorem lw_p42 : lw_okq (⟨"PathparadeModel", "alike", "(II)I"⟩, 44) := ⟨⟨by decide +kernel, by decide +kernel⟩, List.mem_of_getElem? (i := 910) (by decide +kernel), List.mem_of_getElem? (i := 1195) (by decide +kernel), List.mem_of_getElem? (i := 1196) (by decide +kernel)⟩
theorem lw_p43 : lw_okq (⟨"PathparadeModel", "many", "(IIZ)I"⟩, 44) := ⟨⟨by decide +kernel, by decide +kernel⟩, List.mem_of_getElem? (i := 910) (by decide +kernel), List.mem_of_getElem? (i := 1215) (by decide +kernel), List.mem_of_getElem? (i := 1216) (by decide +kernel)⟩
theorem lw_p44 : lw_okq (⟨"PathparadeModel", "laysArcs", "(IIZ)V"⟩, 44) := ⟨⟨by decide +kernel, by decide +kernel⟩, List.mem_of_getElem? (i := 910) (by decide +kernel), List.mem_of_getElem? (i := 1219) (by decide +kernel), List.mem_of_getElem? (i := 1220) (by decide +kernel)⟩
theorem lw_p45 : lw_okq (⟨"PathparadeModel", "arc", "(III)V"⟩, 44) := ⟨⟨by decide +kernel, by decide +kernel⟩, List.mem_of_getElem? (i := 910) (by decide +kernel), List.mem_of_getElem? (i := 1223) (by decide +kernel), List.mem_of_getElem? (i := 1224) (by decide +kernel)⟩
theorem lw_p46 : lw_okq (⟨"PathparadeModel", "flows", "(II)I"⟩, 44) := ⟨⟨by decide +kernel, by decide +kernel⟩, List.mem_of_getElem? (i := 910) (by decide +kernel), List.mem_of_getElem? (i := 1227) (by decide +kernel), List.mem_of_getElem? (i := 1228) (by decide +kernel)⟩
theorem lw_p47 : lw_okq (⟨"PathparadeModel", "together", "(IIIZ)I"⟩, 44) := ⟨⟨by decide +kernel, by decide +kernel⟩, List.mem_of_getElem? (i := 910) (by decide +kernel), List.mem_of_getElem? (i := 1235) (by decide +kernel), List.mem_of_getElem? (i := 1236) (by decide +kernel)⟩
def lw_privs_3 : List (MethodName × Nat) := [(⟨"PathparadeModel", "isUsable", "(I)Z"⟩, 44), (⟨"PathparadeModel", "shortest", "(II)I"⟩, 44), (⟨"PathparadeModel", "goesAlong", "(IIIZ)I"⟩, 44), (⟨"PathparadeModel", "goesOn", "(III)Z"⟩, 44), (⟨"PathparadeModel", "meets", "(II)V"⟩, 44), (⟨"PathparadeModel", "isBehind", "(I)Z"⟩, 44), (⟨"PathparadeModel", "laysFirsts", "(I)V"⟩, 44), (⟨"PathparadeModel", "waitsAt", "(II)V"⟩, 44), (⟨"PathparadeModel", "laysWalk", "(II)V"⟩, 44), (⟨"PathparadeModel", "leads", "(III)I"⟩, 44), (⟨"PathparadeModel", "alike", "(II)I"⟩, 44), (⟨"PathparadeModel", "many", "(IIZ)I"⟩, 44), (⟨"PathparadeModel", "laysArcs", "(IIZ)V"⟩, 44), (⟨"PathparadeModel", "arc", "(III)V"⟩, 44), (⟨"PathparadeModel", "flows", "(II)I"⟩, 44), (⟨"PathparadeModel", "together", "(IIIZ)I"⟩, 44)]
theorem lw_r3 : ∀ q ∈ lw_privs_3, lw_okq q := List.forall_mem_cons.mpr ⟨lw_p32, List.forall_mem_cons.mpr ⟨lw_p33, List.forall_mem_cons.mpr ⟨lw_p34, List.forall_mem_cons.mpr ⟨lw_p35, List.forall_mem_cons.mpr ⟨lw_p36, List.forall_mem_cons.mpr ⟨lw_p37, List.forall_mem_cons.mpr ⟨lw_p38, List.forall_mem_cons.mpr ⟨lw_p39, List.forall_mem_cons.mpr ⟨lw_p40, List.forall_mem_cons.mpr ⟨lw_p41, List.forall_mem_cons.mpr ⟨lw_p42, List.forall_mem_cons.mpr ⟨lw_p43, List.forall_mem_cons.mpr ⟨lw_p44, List.forall_mem_cons.mpr ⟨lw_p45, List.forall_mem_cons.mpr ⟨lw_p46, List.forall_mem_cons.mpr ⟨lw_p47, fun _ h => absurd h List.not_mem_nil⟩⟩⟩⟩⟩⟩⟩⟩⟩⟩⟩⟩⟩⟩⟩⟩
theorem lw_p48 : lw_okq (⟨"PathparadeModel", "errorOfAllowed", "(II)I"⟩, 44) := ⟨⟨by decide +kernel, by decide +kernel⟩, List.mem_of_getElem? (i := 910) (by decide +kernel), List.mem_of_getElem? (i := 1243) (by decide +kernel), List.mem_of_getElem? (i := 1244) (by decide +kernel)⟩
theorem lw_p49 : lw_okq (⟨"PathparadeModel", "laysAllowed", "(II)I"⟩, 44) := ⟨⟨by decide +kernel, by decide +kernel⟩, List.mem_of_getElem? (i := 910) (by decide +kernel), List.mem_of_getElem? (i := 1247) (by decide +kernel), List.mem_of_getElem? (i := 1248) (by decide +kernel)⟩
theorem lw_p50 : lw_okq (⟨"PathparadeModel", "laysRests", "(I)V"⟩, 44) := ⟨⟨by decide +kernel, by decide +kernel⟩, List.mem_of_getElem? (i := 910) (by decide +kernel), List.mem_of_getElem? (i := 1251) (by decide +kernel), List.mem_of_getElem? (i := 1252) (by decide +kernel)⟩
theorem lw_p51 : lw_okq (⟨"PathparadeModel", "mayFollow", "(II)Z"⟩, 44) := ⟨⟨by decide +kernel, by decide +kernel⟩, List.mem_of_getElem? (i := 910) (by decide +kernel), List.mem_of_getElem? (i := 1255) (by decide +kernel), List.mem_of_getElem? (i := 1256) (by decide +kernel)⟩
theorem lw_p52 : lw_okq (⟨"PathparadeModel", "nextOf", "(I)I"⟩, 44) := ⟨⟨by decide +kernel, by decide +kernel⟩, List.mem_of_getElem? (i := 910) (by decide +kernel), List.mem_of_getElem? (i := 1259) (by decide +kernel), List.mem_of_getElem? (i := 1260) (by decide +kernel)⟩
def lw_privs_4 : List (MethodName × Nat) := [(⟨"PathparadeModel", "errorOfAllowed", "(II)I"⟩, 44), (⟨"PathparadeModel", "laysAllowed", "(II)I"⟩, 44), (⟨"PathparadeModel", "laysRests", "(I)V"⟩, 44), (⟨"PathparadeModel", "mayFollow", "(II)Z"⟩, 44), (⟨"PathparadeModel", "nextOf", "(I)I"⟩, 44)]
theorem lw_r4 : ∀ q ∈ lw_privs_4, lw_okq q := List.forall_mem_cons.mpr ⟨lw_p48, List.forall_mem_cons.mpr ⟨lw_p49, List.forall_mem_cons.mpr ⟨lw_p50, List.forall_mem_cons.mpr ⟨lw_p51, List.forall_mem_cons.mpr ⟨lw_p52, fun _ h => absurd h List.not_mem_nil⟩⟩⟩⟩⟩
def lw_privs : List (MethodName × Nat) := lw_privs_1 ++ (lw_privs_2 ++ (lw_privs_3 ++ (lw_privs_4)))
def lw_tbl : List Cond := k2_sels lw_privs ++ tables_1
theorem lw_privs_ok : ∀ q ∈ lw_privs, lw_okq q := by
  show ∀ q ∈ lw_privs_1 ++ (lw_privs_2 ++ (lw_privs_3 ++ (lw_privs_4))), lw_okq q
  exact List.forall_mem_append.mpr ⟨lw_r1, List.forall_mem_append.mpr ⟨lw_r2, List.forall_mem_append.mpr ⟨lw_r3, lw_r4⟩⟩⟩
-- ===== end of PART A; then your names; then what follows =====
/-! ===== BEGIN words of one list among another's, by their places ===== -/
theorem goodIn_r {big : List Cond} (ws : List Cond) (ps : List Nat) (hp : ws = ps.filterMap (fun i => big[i]?)) (h : ws.all goodWord = true) : GoodIn big ws := by
  intro w hw
  have h1 := List.all_eq_true.mp h w hw
  rw [hp] at hw
  obtain ⟨i, -, hi⟩ := List.mem_filterMap.mp hw
  have hm : w ∈ big := by first | exact List.mem_of_getElem? hi | exact List.getElem?_mem hi
  exact ⟨hm, good_of_word h1⟩
theorem goodIn_app {big a b : List Cond} (ha : GoodIn big a) (hb : GoodIn big b) : GoodIn big (a ++ b) := fun w h => (List.mem_append.mp h).elim (ha w) (hb w)
theorem goodIn_ca {big a b : List Cond} {c : Cond} (ha : GoodIn big (c :: a)) (hb : GoodIn big b) : GoodIn big (c :: (a ++ b)) := fun w h => (List.mem_cons.mp h).elim (fun e => ha w (List.mem_cons.mpr (Or.inl e))) (fun h => (List.mem_append.mp h).elim (fun h => ha w (List.mem_cons.mpr (Or.inr h))) (hb w))
theorem goodIn_sub {big ws : List Cond} (hm : ∀ w ∈ ws, w ∈ big) (h : ws.all goodWord = true) : GoodIn big ws := fun w hw => ⟨hm w hw, good_of_word (List.all_eq_true.mp h w hw)⟩
/-! ===== END ===== -/

/-! ===== BEGIN exceptions that leave a method, and their catching by the caller (launches without stack traces) ===== -/
section VXA
/-! The laws vx_back, vx_callV, vx_callS, vx_callSW, vx_throw0, vx_throwS follow proofs of the library, with one case more: JvmDerived/Free/Laws.lean (Back.of_free), Shelf42/LK1.lean (callV, callS), Shelf/KitTraced.lean (throwNew0V, throwNewS). -/
/-- where a method has thrown q: the class by its name, the cell, what was written, the world -/
def vx_T (XC : String → State → State → Prop) (st : State) (q : Addr) (t : State) (mc ms : Nat) (free : Addr → Prop) : Prop :=
  ∃ (E : String) (ce : Cell) (L : List Loc), XC E st t ∧ t.heap[q]? = some ce ∧ ce.vm = .none ∧ st.vm.findClass E = some ce.cls ∧ st.WarmedH t.vm ∧ st.sameButNew ({ t with vm := st.vm } : State) L mc ms ∧ ∀ z ∈ L, free z.base
def vx_Q (Qc : Array Value → State → Outcome → State → Prop) (XC : String → State → State → Prop) (mc ms : Nat) (free : Addr → Prop) : Array Value → State → Outcome → State → Prop := fun a st o t =>
  (Qc a st o t ∧ ∃ L, FrameEnd st o t L mc ms ∧ ∀ q ∈ L, free q.base) ∨ ∃ q, o = .threw q ∧ vx_T XC st q t mc ms free
/-- a callee that returns or throws -/
def vx_Met (l : Launch) (y : MethodName) (ws : List Cond) (rm : Room) (Pc : Array Value → State → Prop) (Qc : Array Value → State → Outcome → State → Prop) (XC : String → State → State → Prop) (mc ms : Nat) (free : Addr → Prop) : Prop :=
  MetFree l y (headSpec ws rm) Pc (fun _ _ _ _ _ => True) (vx_Q Qc XC mc ms free)
def vx_Post (XC : String → State → State → Prop) (mc ms : Nat) (free : Addr → Prop) : Pt → Array Value → Addr → Pt → Prop := fun A a q B =>
  ∃ (g : JFrame) (mk : MethodId) (t : State) (L : List Loc) (E : String) (ce : Cell), B.U.heap = t.heap ∧ B.U.vm = t.vm ∧ XC E (A.U.calling g mk a) t ∧ t.heap[q]? = some ce ∧ ce.vm = .none ∧ A.U.vm.findClass E = some ce.cls ∧ B.locs = A.locs ++ L ∧ (∀ z ∈ L, free z.base) ∧ B.cells = A.cells + mc ∧ B.slots = A.slots + ms
def vx_Back (l : Launch) (R : Room) (p : Program) (e : Env) (below : List Frame) (s : State) (sargs : Array Value) (y : MethodName) (len W9 : Nat)
    (Pre : Pt → Array Value → Prop) (Post : Pt → Array Value → Option Value → Pt → Prop) (PostX : Pt → Array Value → Addr → Pt → Prop) : Prop :=
  ∀ (m : MethodId) (meth : Method) (c : Code) (A : Pt) (g : JFrame) (ig : Instr) (mk : MethodId) (a : Array Value),
    Stand p l e R s m sargs below meth c A.U A.locs A.cells A.slots → g.method = m → g.locals.size = c.maxLocals → decode c.code g.pc = .ok (ig, len) →
    2 * g.monitorRoom + (g.stack.map fun v => v.category).sum ≤ W9 → A.U.methodNamed? y = some mk → Pre A a →
    (∃ (v : Option Value) (B : Pt), Stand p l e R s m sargs below meth c B.U B.locs B.cells B.slots ∧ Post A a v B ∧
      Steps p.tables e below (doInvoke e (A.U.setTop g) [] mk a).1 (B.U.setTop { g with pc := g.pc + len, stack := v.toList ++ g.stack })) ∨
    (∃ (q : Addr) (B : Pt), Stand p l e R s m sargs below meth c B.U B.locs B.cells B.slots ∧ PostX A a q B ∧
      Steps p.tables e below (doInvoke e (A.U.setTop g) [] mk a).1 ((B.U.setTop g).pushFrame (.throwing q)))
section Payer
variable {l : Launch} {R : Room} {p : Program} {e : Env} {below : List Frame} {s : State} {sargs : Array Value} {y : MethodName} {len W9 : Nat}
theorem vx_back {ws : List Cond} {rm : Room} {Pc : Array Value → State → Prop} {Qc : Array Value → State → Outcome → State → Prop} {XC : String → State → State → Prop} {mc ms : Nat} {free : Addr → Prop} {bytes : ByteArray} {maxL : Nat} {ret : Option FieldType}
    (hM : vx_Met l y ws rm Pc Qc XC mc ms free) (hblind : FrameBlind Pc) (hrc : rm.cells = mc) (hrs : rm.slots = ms)
    (hframes : rm.frames + 1 ≤ R.frames) (hlocals : W9 + (maxL + 11) + rm.locals ≤ R.locals)
    (hws : ∀ w ∈ ws, ∀ a' U, s.WarmedH U.vm → w.before a' U = true) (hcode : Cond.code y bytes maxL ret ∈ ws) (hinit : ∀ a' U, s.WarmedH U.vm → (Cond.initialized y.cls).before a' U = true) :
    vx_Back l R p e below s sargs y len W9 (PreOf R mc ms Pc) (PostOf Qc mc ms free) (vx_Post XC mc ms free) := by
  intro m meth c A g ig mk a X hg hsize hdg hW hn hp
  have h1 : (headSpec ws rm).pre.before a A.U = true := atoms_intro fun w hw => hws w hw _ _ X.warmed
  have h2 : (Cond.code y bytes maxL ret).before a A.U = true := hws _ hcode _ _ X.warmed
  have h3 : (Cond.initialized y.cls).before a A.U = true := hinit _ _ X.warmed
  have h4 : A.cells + (headSpec ws rm).room.cells ≤ R.cells := by rw [show (headSpec ws rm).room.cells = mc from hrc]; exact hp.1
  have h5 : A.slots + (headSpec ws rm).room.slots ≤ R.slots := by rw [show (headSpec ws rm).room.slots = ms from hrs]; exact hp.2.1
  have hPc : Pc a (A.U.calling g mk a) := hblind _ _ _ _ hp.2.2
  obtain ⟨U, Ls, c0, s0⟩ := A
  dsimp only [Pt.U, Pt.locs, Pt.cells, Pt.slots] at h1 h2 h3 h4 h5 X hn hPc ⊢
  obtain ⟨methY, cY, hmY, hcY, -, hlY, -, -, -, -⟩ := Cond.code_spec hn h2
  obtain ⟨kY, hkY, -⟩ := className_of_methodNamed hn
  have hinitY : kY.init = .initialized := Cond.initialized_spec (findClass_of_methodNamed hn) hkY h3
  have h : At U g.method c below := by rw [hg]; exact X.here
  have hlocals9 : W9 + (maxL + 11) + (headSpec ws rm).room.locals ≤ R.locals := hlocals
  have happ : (headSpec ws rm).appliesLoose y e.platform (U.calling g mk a) = true :=
    Spec.appliesLoose_calling (g := g) h hdg hn hkY hinitY
      (X.room_calling (g := g) (R' := (headSpec ws rm).room) hsize hmY hcY hframes (by rw [hlY]; omega) h4 h5) h1
  obtain ⟨mid, hmid⟩ := h.above
  have hfr : (U.setTop g).frames = (.java g :: mid) ++ below := by rw [State.frames_setTop' g h.top, hmid]; rfl
  obtain ⟨o, s₂, hsteps, -, hend, hq⟩ := Steps.callFree hM p X.admits X.cas X.clock (acts := []) hfr happ hPc trivial
  have hq' : vx_Q Qc XC mc ms free a (U.calling g mk a) o s₂ := hq
  rw [State.frames_setTop' g h.top] at hend
  obtain ⟨g₀, hg0⟩ := Option.isSome_iff_exists.mp h.top
  obtain ⟨r, hr⟩ := State.topJava?_eq_some.mp hg0
  have hr' : (({ U with heap := s₂.heap, slotsUsed := s₂.slotsUsed } : State).setVm s₂.vm).frames = .java g₀ :: r := hr
  rcases hq' with ⟨hqc, L, hfe, hL⟩ | ⟨q, rfl, E, ce, L, hx, hce, hcv, hcl, hW₂, hsm, hL⟩
  · obtain ⟨⟨v, rfl⟩, hW₂, e2, q2, q3, q4, q5, q6⟩ := id hfe
    have e3 : s₂ = ({ (U.calling g mk a).setFrames s₂.frames with heap := s₂.heap, slotsUsed := s₂.slotsUsed } : State).setVm s₂.vm := by
      have : s₂ = ({ s₂ with vm := (U.calling g mk a).vm } : State).setVm s₂.vm := rfl
      rw [e2] at this
      exact this
    obtain ⟨c₂, i₂, len₂, hc₂, hd₂, hf₂⟩ := hend
    have hW' : U.WarmedH s₂.vm := hW₂
    have hcc : c₂ = c := by
      have h1 : s₂.code? g.method = U.code? g.method := by
        rw [State.code?_eq, State.code?_eq, hW'.alike.method?]
      exact Option.some.inj (hc₂.symm.trans (h1.trans h.code))
    subst hcc
    have hlen : len₂ = len := by rw [hdg] at hd₂; cases hd₂; rfl
    subst hlen
    have hs₂ : s₂ = (({ U with heap := s₂.heap, slotsUsed := s₂.slotsUsed } : State).setVm s₂.vm).setTop { g with pc := g.pc + len₂, stack := v.toList ++ g.stack } := by
      refine e3.trans ?_
      rw [hf₂, State.calling_eq h.top, State.setFrames_setFrames, State.setTop_of_frames _ hr', hr]
      rfl
    have hsame : U.sameButNew ({ U with heap := s₂.heap, slotsUsed := s₂.slotsUsed } : State) L mc ms := by
      refine ⟨?_, q2, q3, q4, q5, q6⟩
      obtain ⟨t, ht, -⟩ := State.frames_cons hr
      show ({ U with heap := s₂.heap, slotsUsed := s₂.slotsUsed } : State) = { U.setFrames U.frames with heap := s₂.heap, slotsUsed := s₂.slotsUsed }
      rw [State.setFrames_self ht]
    subst hg
    refine Or.inl ⟨v, ⟨(({ U with heap := s₂.heap, slotsUsed := s₂.slotsUsed } : State).setVm s₂.vm), Ls ++ L, c0 + mc, s0 + ms⟩,
      ⟨X.admits, X.cas, X.clock, X.frames, X.room, X.hears, X.method, X.code, (X.here.setHeapUsed s₂.heap s₂.slotsUsed).setVm hW'.alike, X.tail, State.WarmedH.trans X.warmed hW', X.limits, X.bytes, X.same.trans (hsame.setVm s.vm)⟩,
      ⟨g, mk, s₂, L, rfl, rfl, hqc, rfl, hL, rfl, rfl⟩, ?_⟩
    show Steps p.tables e below _ ((({ U with heap := s₂.heap, slotsUsed := s₂.slotsUsed } : State).setVm s₂.vm).setTop { g with pc := g.pc + len₂, stack := v.toList ++ g.stack })
    rw [← hs₂]
    exact hsteps
  · obtain ⟨e2, q2, q3, q4, q5, q6⟩ := id hsm
    have e3 : s₂ = ({ (U.calling g mk a).setFrames s₂.frames with heap := s₂.heap, slotsUsed := s₂.slotsUsed } : State).setVm s₂.vm := by
      have : s₂ = ({ s₂ with vm := (U.calling g mk a).vm } : State).setVm s₂.vm := rfl
      rw [e2] at this
      exact this
    have hf₂ : s₂.frames = .throwing q :: .java g :: U.frames.tail := hend
    have hW' : U.WarmedH s₂.vm := hW₂
    have hs₂ : s₂ = ((({ U with heap := s₂.heap, slotsUsed := s₂.slotsUsed } : State).setVm s₂.vm).setTop g).pushFrame (.throwing q) := by
      refine e3.trans ?_
      rw [hf₂, State.calling_eq h.top, State.setFrames_setFrames, State.pushFrame, State.frames_setTop _ hr', State.setTop_of_frames _ hr', State.setFrames_setFrames, hr]
      rfl
    have hsame : U.sameButNew ({ U with heap := s₂.heap, slotsUsed := s₂.slotsUsed } : State) L mc ms := by
      refine ⟨?_, q2, q3, q4, q5, q6⟩
      obtain ⟨t, ht, -⟩ := State.frames_cons hr
      show ({ U with heap := s₂.heap, slotsUsed := s₂.slotsUsed } : State) = { U.setFrames U.frames with heap := s₂.heap, slotsUsed := s₂.slotsUsed }
      rw [State.setFrames_self ht]
    subst hg
    refine Or.inr ⟨q, ⟨(({ U with heap := s₂.heap, slotsUsed := s₂.slotsUsed } : State).setVm s₂.vm), Ls ++ L, c0 + mc, s0 + ms⟩,
      ⟨X.admits, X.cas, X.clock, X.frames, X.room, X.hears, X.method, X.code, (X.here.setHeapUsed s₂.heap s₂.slotsUsed).setVm hW'.alike, X.tail, State.WarmedH.trans X.warmed hW', X.limits, X.bytes, X.same.trans (hsame.setVm s.vm)⟩,
      ⟨g, mk, s₂, L, E, ce, rfl, rfl, hx, hce, hcv, hcl, rfl, hL, rfl, rfl⟩, ?_⟩
    show Steps p.tables e below _ (((({ U with heap := s₂.heap, slotsUsed := s₂.slotsUsed } : State).setVm s₂.vm).setTop g).pushFrame (.throwing q))
    rw [← hs₂]
    exact hsteps
end Payer
section Calls
variable {p : Program} {l : Launch} {e : Env} {R : Room} {s : State} {m : MethodId} {args : Array Value} {below : List Frame} {meth : Method} {c : Code} {T : State} {locs : List Loc} {cells slots : Nat}
theorem vx_callV (X : Stand p l e R s m args below meth c T locs cells slots) (hexec : p.tables.exec = Jvm.exec) {own C : String} {index : Nat} {y : MethodName} {bytes : ByteArray} {maxL : Nat} {ret : Option FieldType}
    (hown : s.vm.findClass own = some m.cls) (hlink : (Cond.methodLink own index y).before args s = true) (hinst : (Cond.instanceMethod y).before args s = true) (hsel : (Cond.selects C y y).before args s = true)
    (hcode : (Cond.code y bytes maxL ret).before args s = true) (hy : y.cls ≠ "java/lang/invoke/MethodHandle" ∧ y.cls ≠ "java/lang/invoke/VarHandle")
    {W9 : Nat} {Pre : Pt → Array Value → Prop} {Post : Pt → Array Value → Option Value → Pt → Prop} {PostX : Pt → Array Value → Addr → Pt → Prop} (hK : vx_Back l R p e below s args y 3 W9 Pre Post PostX)
    {b : Addr} {cellB : Cell} (hcell : T.heap[b]? = some cellB) (hobj : cellB.vm.isStatics = false) (hcls : s.vm.findClass C = some cellB.cls)
    {g : JFrame} (hg : g.method = m) (hsize : g.locals.size = c.maxLocals) {argsL rest : List Value} (hlen : ∀ sig, parseMethodDescriptor y.desc = some sig → argsL.length = sig.parameters.length)
    (hstack : g.stack = argsL.reverse ++ .ref b :: rest) (hW : 2 * g.monitorRoom + (rest.map fun v => v.category).sum ≤ W9) (hdg : decode c.code g.pc = .ok (.invokevirtual index, 3))
    (hpre : ∀ vm₁, s.WarmedH vm₁ → Pre ⟨T.setVm vm₁, locs, cells, slots⟩ (Value.ref b :: argsL).toArray) :
    (∃ (v : Option Value) (vm₁ : Vm) (B : Pt), s.WarmedH vm₁ ∧ Stand p l e R s m args below meth c B.U B.locs B.cells B.slots ∧ Post ⟨T.setVm vm₁, locs, cells, slots⟩ (Value.ref b :: argsL).toArray v B ∧
      ∀ target, Steps p.tables e below (B.U.setTop { g with pc := g.pc + 3, stack := v.toList ++ rest }) target → Steps p.tables e below (T.setTop g) target) ∨
    (∃ (q : Addr) (vm₁ : Vm) (B : Pt), s.WarmedH vm₁ ∧ Stand p l e R s m args below meth c B.U B.locs B.cells B.slots ∧ PostX ⟨T.setVm vm₁, locs, cells, slots⟩ (Value.ref b :: argsL).toArray q B ∧
      Steps p.tables e below (T.setTop g) ((B.U.setTop { g with stack := rest }).pushFrame (.throwing q))) := by
  obtain ⟨mk, methM, hnamed, hmethM, hstM, habM⟩ := Cond.instanceMethod_spec hinst
  obtain ⟨methM', cM, hmethM', -, -, -, -, -, -, hsigM⟩ := Cond.code_spec hnamed hcode
  cases hmethM.symm.trans hmethM'
  obtain ⟨c2, r2, m2, q1, q2, q3, q4, kP, hkP, hkPi⟩ := Cond.selects_spec hsel
  cases hcls.symm.trans q1
  cases (State.methodFound?_of_named hnamed hy).symm.trans q2
  cases hnamed.symm.trans q3
  have hselP : selectMethod e.platform s.vm cellB.cls mk = .method mk := by rw [Launch.admits_selectMethod X.admits]; exact q4
  obtain ⟨vm₁, X₁, hstep₁⟩ := X.invokevirtual hexec hown hlink hnamed hmethM hstM hkP hkPi hy (a := b) (cell := cellB) hcell
    (fun z h => by rw [h] at hobj; cases hobj) hselP hmethM habM hkP hkPi (g := g) hg (argsL := argsL) (rest := rest) (hlen _ hsigM) hstack hdg
  rcases hK m meth c ⟨T.setVm vm₁, locs, cells, slots⟩ { g with stack := rest } (.invokevirtual index) mk (Value.ref b :: argsL).toArray X₁ hg hsize hdg hW (X₁.named hnamed) (hpre vm₁ X₁.warmed) with ⟨v, B, X', hpost, hsteps⟩ | ⟨q, B, X', hpost, hsteps⟩
  · exact Or.inl ⟨v, vm₁, B, X₁.warmed, X', hpost, fun target h => hstep₁ _ fun acts => by rw [doInvoke_state]; exact hsteps.trans h⟩
  · exact Or.inr ⟨q, vm₁, B, X₁.warmed, X', hpost, hstep₁ _ fun acts => by rw [doInvoke_state]; exact hsteps⟩
theorem vx_callS (X : Stand p l e R s m args below meth c T locs cells slots) (hexec : p.tables.exec = Jvm.exec) {own : String} {index : Nat} {y : MethodName} {bytes : ByteArray} {maxL : Nat} {ret : Option FieldType}
    (hown : s.vm.findClass own = some m.cls) (hlink : (Cond.methodLink own index y).before args s = true) (hstat : (Cond.static y).before args s = true) (hinit : (Cond.initialized y.cls).before args s = true)
    (hcode : (Cond.code y bytes maxL ret).before args s = true) (hy : y.cls ≠ "java/lang/invoke/MethodHandle" ∧ y.cls ≠ "java/lang/invoke/VarHandle")
    {W9 : Nat} {Pre : Pt → Array Value → Prop} {Post : Pt → Array Value → Option Value → Pt → Prop} {PostX : Pt → Array Value → Addr → Pt → Prop} (hK : vx_Back l R p e below s args y 3 W9 Pre Post PostX)
    {g : JFrame} (hg : g.method = m) (hsize : g.locals.size = c.maxLocals) {argsL rest : List Value} (hlen : ∀ sig, parseMethodDescriptor y.desc = some sig → argsL.length = sig.parameters.length)
    (hstack : g.stack = argsL.reverse ++ rest) (hW : 2 * g.monitorRoom + (rest.map fun v => v.category).sum ≤ W9) (hdg : decode c.code g.pc = .ok (.invokestatic index, 3))
    (hpre : ∀ vm₁, s.WarmedH vm₁ → Pre ⟨T.setVm vm₁, locs, cells, slots⟩ argsL.toArray) :
    (∃ (v : Option Value) (vm₁ : Vm) (B : Pt), s.WarmedH vm₁ ∧ Stand p l e R s m args below meth c B.U B.locs B.cells B.slots ∧ Post ⟨T.setVm vm₁, locs, cells, slots⟩ argsL.toArray v B ∧
      ∀ target, Steps p.tables e below (B.U.setTop { g with pc := g.pc + 3, stack := v.toList ++ rest }) target → Steps p.tables e below (T.setTop g) target) ∨
    (∃ (q : Addr) (vm₁ : Vm) (B : Pt), s.WarmedH vm₁ ∧ Stand p l e R s m args below meth c B.U B.locs B.cells B.slots ∧ PostX ⟨T.setVm vm₁, locs, cells, slots⟩ argsL.toArray q B ∧
      Steps p.tables e below (T.setTop g) ((B.U.setTop { g with stack := rest }).pushFrame (.throwing q))) := by
  obtain ⟨mk, hnamed⟩ := Cond.code_named hcode
  obtain ⟨methM, cM, hmethM, -, -, -, -, -, -, hsigM⟩ := Cond.code_spec hnamed hcode
  have hstatic : methM.isStatic = true := Cond.static_spec hnamed hmethM hstat
  obtain ⟨kP, hkP, -⟩ := className_of_methodNamed hnamed
  have hinitP : kP.init = .initialized := Cond.initialized_spec (findClass_of_methodNamed hnamed) hkP hinit
  obtain ⟨vm₁, X₁, hstep₁⟩ := X.invokestatic hexec hown hlink hnamed hmethM hstatic hkP hinitP hy (g := g) hg (argsL := argsL) (rest := rest) (hlen _ hsigM) hstack hdg
  rcases hK m meth c ⟨T.setVm vm₁, locs, cells, slots⟩ { g with stack := rest } (.invokestatic index) mk argsL.toArray X₁ hg hsize hdg hW (X₁.named hnamed) (hpre vm₁ X₁.warmed) with ⟨v, B, X', hpost, hsteps⟩ | ⟨q, B, X', hpost, hsteps⟩
  · exact Or.inl ⟨v, vm₁, B, X₁.warmed, X', hpost, fun target h => hstep₁ _ fun acts => by rw [doInvoke_state]; exact hsteps.trans h⟩
  · exact Or.inr ⟨q, vm₁, B, X₁.warmed, X', hpost, hstep₁ _ fun acts => by rw [doInvoke_state]; exact hsteps⟩
end Calls
theorem vx_cls {s : State} {T : State} {vm₁ : Vm} {E : String} {k : ClassId} (hW : s.WarmedH vm₁) (h : (T.setVm vm₁).vm.findClass E = some k) : s.vm.findClass E = some k := by
  have h1 : vm₁.findClass E = some k := h
  rw [hW.alike.findClass] at h1
  exact h1
/-- the method's frame g, with q thrown over it -/
def vx_W (p : Program) (l : Launch) (e : Env) (R : Room) (s : State) (m : MethodId) (args : Array Value) (below : List Frame) (meth : Method) (c : Code) (H : Heap) (locs : List Loc) (cells slots : Nat) (Q : State → Prop) (g : JFrame) (q : Addr) : Prop :=
  ∀ T : State, T.heap = H → Stand p l e R s m args below meth c T locs cells slots → ∃ t, Steps p.tables e below ((T.setTop g).pushFrame (.throwing q)) t ∧ Q t
def vx_Run (p : Program) (l : Launch) (e : Env) (R : Room) (s : State) (m : MethodId) (args : Array Value) (below : List Frame) (meth : Method) (c : Code) (H : Heap) (locs : List Loc) (cells slots mc ms : Nat) (g : JFrame) (rest : List Value) (Qa : State → Outcome → State → Prop) (XC : String → State → State → Prop) (free : Addr → Prop) : Prop :=
  ∀ T : State, T.heap = H → Stand p l e R s m args below meth c T locs cells slots →
    (∃ (v : Option Value) (st₀ t T' : State) (L : List Loc), st₀.heap = H ∧ Stand p l e R s m args below meth c T' (locs ++ L) (cells + mc) (slots + ms) ∧ (∀ q ∈ L, free q.base) ∧ T'.heap = t.heap ∧ T'.vm = t.vm ∧ Qa st₀ (.returned v) t ∧
      Goes p e below T g T' { g with pc := g.pc + 3, stack := v.toList ++ rest }) ∨
    (∃ (q : Addr) (st₀ t T' : State) (L : List Loc) (E : String) (ce : Cell), st₀.heap = H ∧ Stand p l e R s m args below meth c T' (locs ++ L) (cells + mc) (slots + ms) ∧ (∀ z ∈ L, free z.base) ∧ T'.heap = t.heap ∧ T'.vm = t.vm ∧ XC E st₀ t ∧ t.heap[q]? = some ce ∧ ce.vm = .none ∧ s.vm.findClass E = some ce.cls ∧
      Steps p.tables e below (T.setTop g) ((T'.setTop { g with stack := rest }).pushFrame (.throwing q)))
def vx_X {S : Type} (px : S → Prop) (B : String → S → State → Prop) (A : Nat → Prop) : String → State → State → Prop := fun E st t => ∃ u : S, px u ∧ B E u t ∧ va_F A st t
section Runs
variable {p : Program} {l : Launch} {e : Env} {R : Room} {s : State} {m : MethodId} {args : Array Value} {below : List Frame} {meth : Method} {c : Code} {H : Heap} {locs : List Loc} {cells slots : Nat}
variable {y : MethodName} {bytes cc : ByteArray} {maxL nL mc ms n index : Nat} {ret : Option FieldType} {ws : List Cond} {rm : Room} {Pc : Array Value → State → Prop} {Qc : Array Value → State → Outcome → State → Prop} {XC : String → State → State → Prop} {free : Addr → Prop} {Ts : List Cond} {own C : String} {b : Addr} {As rest : List Value} {g : JFrame}
theorem vx_callBack (cb : CallB R s args own index y bytes maxL ret ws rm mc ms n) (hM : vx_Met l y ws rm Pc Qc XC mc ms free) (hbl : FrameBlind Pc) : vx_Back l R p e below s args y 3 8 (PreOf R mc ms Pc) (PostOf Qc mc ms free) (vx_Post XC mc ms free) := by
  obtain ⟨hrc, hrs, hfr, hlo, hws, hcw, -, hini, -⟩ := cb
  exact vx_back (bytes := bytes) (maxL := maxL) (ret := ret) hM hbl hrc hrs hfr hlo hws hcw (fun a' U hW => word_at hW (Or.inl (by first | rfl | simp [Cond.onTables, Cond.keeps, Cond.steady])) hini)
theorem vx_runV (S : CallFix p m c cc nL s args Ts own) (hM : vx_Met l y ws rm Pc Qc XC mc ms free) (cw : CallW R s args own C index y bytes maxL ret ws rm mc ms n) (hp : PreV s H C b Pc As)
    (hg : g.method = m) (hn : As.length = n) (hsize : g.locals.size = nL) (hstack : g.stack = As.reverse ++ .ref b :: rest) (hW : 2 * g.monitorRoom + (rest.map fun v => v.category).sum ≤ 8) (hdg : decode cc g.pc = .ok (.invokevirtual index, 3)) (hf : cells + mc ≤ R.cells ∧ slots + ms ≤ R.slots) :
    vx_Run p l e R s m args below meth c H locs cells slots mc ms g rest (Qc (Value.ref b :: As).toArray) XC free := by
  have hK : vx_Back l R p e below s args y 3 8 (PreOf R mc ms Pc) (PostOf Qc mc ms free) (vx_Post XC mc ms free) := vx_callBack cw.1 hM hp.1
  obtain ⟨⟨-, -, -, -, -, -, hcode, -, hy, hlen, hl⟩, hin, hse⟩ := cw
  obtain ⟨hx, hb, hml, ho, -⟩ := S
  obtain ⟨-, ⟨cellB, hcB, hoB, hclB⟩, hPc⟩ := hp
  intro T hT X
  rcases vx_callV X hx (C := C) (bytes := bytes) (maxL := maxL) (ret := ret) ho hl hin hse hcode hy hK (by rw [hT]; exact hcB) hoB hclB hg (hsize.trans hml.symm) (argsL := As) (rest := rest) (fun sig h => hn.trans (hlen sig h)) hstack hW (by rw [hb]; exact hdg)
    (fun vm₁ hW₁ => ⟨hf.1, hf.2, hPc (T.setVm vm₁) hT hW₁⟩) with ⟨v, vm₁, ⟨U', l2, c2, s2⟩, hW₁, X', ⟨g', mk, t, L, e1, e2, hq, h1, hL, h2, h3⟩, st⟩ | ⟨q, vm₁, ⟨U', l2, c2, s2⟩, hW₁, X', ⟨g', mk, t, L, E, ce, e1, e2, hq, hce, hcv, hcl, h1, hL, h2, h3⟩, st⟩
  · dsimp only [Pt.U, Pt.locs, Pt.cells, Pt.slots] at X' e1 e2 h1 h2 h3 st
    subst h1; subst h2; subst h3
    exact Or.inl ⟨v, (T.setVm vm₁).calling g' mk (Value.ref b :: As).toArray, t, U', L, hT, X', hL, e1, e2, hq, st⟩
  · dsimp only [Pt.U, Pt.locs, Pt.cells, Pt.slots] at X' e1 e2 h1 h2 h3 st hcl
    subst h1; subst h2; subst h3
    exact Or.inr ⟨q, (T.setVm vm₁).calling g' mk (Value.ref b :: As).toArray, t, U', L, E, ce, hT, X', hL, e1, e2, hq, hce, hcv, vx_cls hW₁ hcl, st⟩
theorem vx_runS (S : CallFix p m c cc nL s args Ts own) (hM : vx_Met l y ws rm Pc Qc XC mc ms free) (cw : CallB R s args own index y bytes maxL ret ws rm mc ms n ∧ (Cond.static y).before args s = true) (hp : PreS s H Pc As)
    (hg : g.method = m) (hn : As.length = n) (hsize : g.locals.size = nL) (hstack : g.stack = As.reverse ++ rest) (hW : 2 * g.monitorRoom + (rest.map fun v => v.category).sum ≤ 8) (hdg : decode cc g.pc = .ok (.invokestatic index, 3)) (hf : cells + mc ≤ R.cells ∧ slots + ms ≤ R.slots) :
    vx_Run p l e R s m args below meth c H locs cells slots mc ms g rest (Qc As.toArray) XC free := by
  have hK : vx_Back l R p e below s args y 3 8 (PreOf R mc ms Pc) (PostOf Qc mc ms free) (vx_Post XC mc ms free) := vx_callBack cw.1 hM hp.1
  obtain ⟨⟨-, -, -, -, -, -, hcode, hini, hy, hlen, hl⟩, hstt⟩ := cw
  obtain ⟨hx, hb, hml, ho, -⟩ := S
  intro T hT X
  rcases vx_callS X hx (bytes := bytes) (maxL := maxL) (ret := ret) ho hl hstt hini hcode hy hK hg (hsize.trans hml.symm) (argsL := As) (rest := rest) (fun sig h => hn.trans (hlen sig h)) hstack hW (by rw [hb]; exact hdg)
    (fun vm₁ hW₁ => ⟨hf.1, hf.2, hp.2 (T.setVm vm₁) hT hW₁⟩) with ⟨v, vm₁, ⟨U', l2, c2, s2⟩, hW₁, X', ⟨g', mk, t, L, e1, e2, hq, h1, hL, h2, h3⟩, st⟩ | ⟨q, vm₁, ⟨U', l2, c2, s2⟩, hW₁, X', ⟨g', mk, t, L, E, ce, e1, e2, hq, hce, hcv, hcl, h1, hL, h2, h3⟩, st⟩
  · dsimp only [Pt.U, Pt.locs, Pt.cells, Pt.slots] at X' e1 e2 h1 h2 h3 st
    subst h1; subst h2; subst h3
    exact Or.inl ⟨v, (T.setVm vm₁).calling g' mk As.toArray, t, U', L, hT, X', hL, e1, e2, hq, st⟩
  · dsimp only [Pt.U, Pt.locs, Pt.cells, Pt.slots] at X' e1 e2 h1 h2 h3 st hcl
    subst h1; subst h2; subst h3
    exact Or.inr ⟨q, (T.setVm vm₁).calling g' mk As.toArray, t, U', L, E, ce, hT, X', hL, e1, e2, hq, hce, hcv, vx_cls hW₁ hcl, st⟩
end Runs
section Rows
variable {p : Program} {l : Launch} {e : Env} {R : Room} {s : State} {m : MethodId} {args : Array Value} {below : List Frame} {meth : Method} {c : Code} {H : Heap} {locs : List Loc} {cells slots : Nat} {Q : State → Prop}
variable {mc ms : Nat} {free : Addr → Prop} {A0 A1 : Nat → Prop} {H0 : Heap} {a : Array Value} {pc : Nat} {ls : Array Slot} {st0 rest : List Value}
theorem vx_keep {st₀ t T' : State} {L : List Loc} (h0 : st₀.heap = H) (e1 : T'.heap = t.heap) (hS : va_S A0 H0 H locs) (hA : ∀ q, q < H.size → A1 q → A0 q) (hf : ∀ q, free q → A0 q) (hL : ∀ q ∈ L, free q.base) (hF : va_F A1 st₀ t) :
    H.size ≤ T'.heap.size ∧ (∀ q : Nat, q < H.size → ¬ A1 q → T'.heap[q]? = H[q]?) ∧ va_S A0 H0 T'.heap (locs ++ L) := by
  obtain ⟨hz, hk⟩ := hF
  rw [h0] at hz hk
  exact ⟨by rw [e1]; exact hz, fun q h1 h2 => by rw [e1]; exact hk q h1 h2,
    ⟨Nat.le_trans hS.1 (by rw [e1]; exact hz), fun q h1 h2 => by rw [e1, hk q (Nat.lt_of_lt_of_le h1 hS.1) (fun z => h2 (hA q (Nat.lt_of_lt_of_le h1 hS.1) z))]; exact hS.2.1 q h1 h2, fun q hq => by
      rcases List.mem_append.mp hq with h | h
      · exact hS.2.2 q h
      · exact hf _ (hL q h)⟩⟩
theorem vx_calli {S SX : Type} {post : Int32 → S → Prop} {px : SX → Prop} {B : S → State → Prop} {BX : String → SX → State → Prop} {AX : Nat → Prop} (hr : vx_Run p l e R s m args below meth c H locs cells slots mc ms (F0 m pc ls st0) rest (va_Qi post B A1 a) (vx_X px BX AX) free) (hS : va_S A0 H0 H locs) (hA : ∀ q, q < H.size → A1 q → A0 q) (hf : ∀ q, free q → A0 q) (hAX : ∀ q, q < H.size → AX q → A0 q)
    (kx : ∀ (E : String) (ce : Cell) (q9 : Addr) (u : SX) (t : State) (H1 : Heap) (locs1 : List Loc), t.heap = H1 → s.vm.Alike t.vm → px u → BX E u t → H.size ≤ H1.size → (∀ q : Nat, q < H.size → ¬ AX q → H1[q]? = H[q]?) → va_S A0 H0 H1 locs1 → H1[q9]? = some ce → ce.vm = .none → s.vm.findClass E = some ce.cls → vx_W p l e R s m args below meth c H1 locs1 (cells + mc) (slots + ms) Q (F0 m pc ls rest) q9)
    (kk : ∀ (r : Int32) (u : S) (t : State) (H1 : Heap) (locs1 : List Loc), t.heap = H1 → s.vm.Alike t.vm → post r u → B u t → H.size ≤ H1.size → (∀ q : Nat, q < H.size → ¬ A1 q → H1[q]? = H[q]?) → va_S A0 H0 H1 locs1 → W p l e R s m args below meth c H1 locs1 (cells + mc) (slots + ms) Q (F0 m (pc + 3) ls (.int r :: rest))) : W p l e R s m args below meth c H locs cells slots Q (F0 m pc ls st0) := by
  intro T hT X
  rcases hr T hT X with ⟨v, st₀, t, T', L, h0, X', hL, e1, e2, ⟨⟨r, u, hv, hp, hb⟩, hF⟩, st⟩ | ⟨q, st₀, t, T', L, E, ce, h0, X', hL, e1, e2, ⟨u, hp, hb, hF⟩, hce, hcv, hcl, st⟩
  · cases hv
    obtain ⟨k1, k2, k3⟩ := vx_keep h0 e1 hS hA hf hL hF
    obtain ⟨t2, a1, b1⟩ := kk r u t T'.heap (locs ++ L) e1.symm (by rw [← e2]; exact X'.warmed.alike) hp hb k1 k2 k3 T' rfl X'
    exact ⟨t2, st t2 a1, b1⟩
  · obtain ⟨k1, k2, k3⟩ := vx_keep h0 e1 hS hAX hf hL hF
    obtain ⟨t2, a1, b1⟩ := kx E ce q u t T'.heap (locs ++ L) e1.symm (by rw [← e2]; exact X'.warmed.alike) hp hb k1 k2 k3 (by rw [e1]; exact hce) hcv hcl T' rfl X'
    exact ⟨t2, st.trans a1, b1⟩
theorem vx_calll {S SX : Type} {post : Int64 → S → Prop} {px : SX → Prop} {B : S → State → Prop} {BX : String → SX → State → Prop} {AX : Nat → Prop} (hr : vx_Run p l e R s m args below meth c H locs cells slots mc ms (F0 m pc ls st0) rest (va_Ql post B A1 a) (vx_X px BX AX) free) (hS : va_S A0 H0 H locs) (hA : ∀ q, q < H.size → A1 q → A0 q) (hf : ∀ q, free q → A0 q) (hAX : ∀ q, q < H.size → AX q → A0 q)
    (kx : ∀ (E : String) (ce : Cell) (q9 : Addr) (u : SX) (t : State) (H1 : Heap) (locs1 : List Loc), t.heap = H1 → s.vm.Alike t.vm → px u → BX E u t → H.size ≤ H1.size → (∀ q : Nat, q < H.size → ¬ AX q → H1[q]? = H[q]?) → va_S A0 H0 H1 locs1 → H1[q9]? = some ce → ce.vm = .none → s.vm.findClass E = some ce.cls → vx_W p l e R s m args below meth c H1 locs1 (cells + mc) (slots + ms) Q (F0 m pc ls rest) q9)
    (kk : ∀ (r : Int64) (u : S) (t : State) (H1 : Heap) (locs1 : List Loc), t.heap = H1 → s.vm.Alike t.vm → post r u → B u t → H.size ≤ H1.size → (∀ q : Nat, q < H.size → ¬ A1 q → H1[q]? = H[q]?) → va_S A0 H0 H1 locs1 → W p l e R s m args below meth c H1 locs1 (cells + mc) (slots + ms) Q (F0 m (pc + 3) ls (.long r :: rest))) : W p l e R s m args below meth c H locs cells slots Q (F0 m pc ls st0) := by
  intro T hT X
  rcases hr T hT X with ⟨v, st₀, t, T', L, h0, X', hL, e1, e2, ⟨⟨r, u, hv, hp, hb⟩, hF⟩, st⟩ | ⟨q, st₀, t, T', L, E, ce, h0, X', hL, e1, e2, ⟨u, hp, hb, hF⟩, hce, hcv, hcl, st⟩
  · cases hv
    obtain ⟨k1, k2, k3⟩ := vx_keep h0 e1 hS hA hf hL hF
    obtain ⟨t2, a1, b1⟩ := kk r u t T'.heap (locs ++ L) e1.symm (by rw [← e2]; exact X'.warmed.alike) hp hb k1 k2 k3 T' rfl X'
    exact ⟨t2, st t2 a1, b1⟩
  · obtain ⟨k1, k2, k3⟩ := vx_keep h0 e1 hS hAX hf hL hF
    obtain ⟨t2, a1, b1⟩ := kx E ce q u t T'.heap (locs ++ L) e1.symm (by rw [← e2]; exact X'.warmed.alike) hp hb k1 k2 k3 (by rw [e1]; exact hce) hcv hcl T' rfl X'
    exact ⟨t2, st.trans a1, b1⟩
theorem vx_callf {S SX : Type} {post : UInt32 → S → Prop} {px : SX → Prop} {B : S → State → Prop} {BX : String → SX → State → Prop} {AX : Nat → Prop} (hr : vx_Run p l e R s m args below meth c H locs cells slots mc ms (F0 m pc ls st0) rest (va_Qf post B A1 a) (vx_X px BX AX) free) (hS : va_S A0 H0 H locs) (hA : ∀ q, q < H.size → A1 q → A0 q) (hf : ∀ q, free q → A0 q) (hAX : ∀ q, q < H.size → AX q → A0 q)
    (kx : ∀ (E : String) (ce : Cell) (q9 : Addr) (u : SX) (t : State) (H1 : Heap) (locs1 : List Loc), t.heap = H1 → s.vm.Alike t.vm → px u → BX E u t → H.size ≤ H1.size → (∀ q : Nat, q < H.size → ¬ AX q → H1[q]? = H[q]?) → va_S A0 H0 H1 locs1 → H1[q9]? = some ce → ce.vm = .none → s.vm.findClass E = some ce.cls → vx_W p l e R s m args below meth c H1 locs1 (cells + mc) (slots + ms) Q (F0 m pc ls rest) q9)
    (kk : ∀ (r : UInt32) (u : S) (t : State) (H1 : Heap) (locs1 : List Loc), t.heap = H1 → s.vm.Alike t.vm → post r u → B u t → H.size ≤ H1.size → (∀ q : Nat, q < H.size → ¬ A1 q → H1[q]? = H[q]?) → va_S A0 H0 H1 locs1 → W p l e R s m args below meth c H1 locs1 (cells + mc) (slots + ms) Q (F0 m (pc + 3) ls (.float r :: rest))) : W p l e R s m args below meth c H locs cells slots Q (F0 m pc ls st0) := by
  intro T hT X
  rcases hr T hT X with ⟨v, st₀, t, T', L, h0, X', hL, e1, e2, ⟨⟨r, u, hv, hp, hb⟩, hF⟩, st⟩ | ⟨q, st₀, t, T', L, E, ce, h0, X', hL, e1, e2, ⟨u, hp, hb, hF⟩, hce, hcv, hcl, st⟩
  · cases hv
    obtain ⟨k1, k2, k3⟩ := vx_keep h0 e1 hS hA hf hL hF
    obtain ⟨t2, a1, b1⟩ := kk r u t T'.heap (locs ++ L) e1.symm (by rw [← e2]; exact X'.warmed.alike) hp hb k1 k2 k3 T' rfl X'
    exact ⟨t2, st t2 a1, b1⟩
  · obtain ⟨k1, k2, k3⟩ := vx_keep h0 e1 hS hAX hf hL hF
    obtain ⟨t2, a1, b1⟩ := kx E ce q u t T'.heap (locs ++ L) e1.symm (by rw [← e2]; exact X'.warmed.alike) hp hb k1 k2 k3 (by rw [e1]; exact hce) hcv hcl T' rfl X'
    exact ⟨t2, st.trans a1, b1⟩
theorem vx_calld {S SX : Type} {post : UInt64 → S → Prop} {px : SX → Prop} {B : S → State → Prop} {BX : String → SX → State → Prop} {AX : Nat → Prop} (hr : vx_Run p l e R s m args below meth c H locs cells slots mc ms (F0 m pc ls st0) rest (va_Qd post B A1 a) (vx_X px BX AX) free) (hS : va_S A0 H0 H locs) (hA : ∀ q, q < H.size → A1 q → A0 q) (hf : ∀ q, free q → A0 q) (hAX : ∀ q, q < H.size → AX q → A0 q)
    (kx : ∀ (E : String) (ce : Cell) (q9 : Addr) (u : SX) (t : State) (H1 : Heap) (locs1 : List Loc), t.heap = H1 → s.vm.Alike t.vm → px u → BX E u t → H.size ≤ H1.size → (∀ q : Nat, q < H.size → ¬ AX q → H1[q]? = H[q]?) → va_S A0 H0 H1 locs1 → H1[q9]? = some ce → ce.vm = .none → s.vm.findClass E = some ce.cls → vx_W p l e R s m args below meth c H1 locs1 (cells + mc) (slots + ms) Q (F0 m pc ls rest) q9)
    (kk : ∀ (r : UInt64) (u : S) (t : State) (H1 : Heap) (locs1 : List Loc), t.heap = H1 → s.vm.Alike t.vm → post r u → B u t → H.size ≤ H1.size → (∀ q : Nat, q < H.size → ¬ A1 q → H1[q]? = H[q]?) → va_S A0 H0 H1 locs1 → W p l e R s m args below meth c H1 locs1 (cells + mc) (slots + ms) Q (F0 m (pc + 3) ls (.double r :: rest))) : W p l e R s m args below meth c H locs cells slots Q (F0 m pc ls st0) := by
  intro T hT X
  rcases hr T hT X with ⟨v, st₀, t, T', L, h0, X', hL, e1, e2, ⟨⟨r, u, hv, hp, hb⟩, hF⟩, st⟩ | ⟨q, st₀, t, T', L, E, ce, h0, X', hL, e1, e2, ⟨u, hp, hb, hF⟩, hce, hcv, hcl, st⟩
  · cases hv
    obtain ⟨k1, k2, k3⟩ := vx_keep h0 e1 hS hA hf hL hF
    obtain ⟨t2, a1, b1⟩ := kk r u t T'.heap (locs ++ L) e1.symm (by rw [← e2]; exact X'.warmed.alike) hp hb k1 k2 k3 T' rfl X'
    exact ⟨t2, st t2 a1, b1⟩
  · obtain ⟨k1, k2, k3⟩ := vx_keep h0 e1 hS hAX hf hL hF
    obtain ⟨t2, a1, b1⟩ := kx E ce q u t T'.heap (locs ++ L) e1.symm (by rw [← e2]; exact X'.warmed.alike) hp hb k1 k2 k3 (by rw [e1]; exact hce) hcv hcl T' rfl X'
    exact ⟨t2, st.trans a1, b1⟩
theorem vx_callv {S SX : Type} {post : S → Prop} {px : SX → Prop} {B : S → State → Prop} {BX : String → SX → State → Prop} {AX : Nat → Prop} (hr : vx_Run p l e R s m args below meth c H locs cells slots mc ms (F0 m pc ls st0) rest (va_Qv post B A1 a) (vx_X px BX AX) free) (hS : va_S A0 H0 H locs) (hA : ∀ q, q < H.size → A1 q → A0 q) (hf : ∀ q, free q → A0 q) (hAX : ∀ q, q < H.size → AX q → A0 q)
    (kx : ∀ (E : String) (ce : Cell) (q9 : Addr) (u : SX) (t : State) (H1 : Heap) (locs1 : List Loc), t.heap = H1 → s.vm.Alike t.vm → px u → BX E u t → H.size ≤ H1.size → (∀ q : Nat, q < H.size → ¬ AX q → H1[q]? = H[q]?) → va_S A0 H0 H1 locs1 → H1[q9]? = some ce → ce.vm = .none → s.vm.findClass E = some ce.cls → vx_W p l e R s m args below meth c H1 locs1 (cells + mc) (slots + ms) Q (F0 m pc ls rest) q9)
    (kk : ∀ (u : S) (t : State) (H1 : Heap) (locs1 : List Loc), t.heap = H1 → s.vm.Alike t.vm → post u → B u t → H.size ≤ H1.size → (∀ q : Nat, q < H.size → ¬ A1 q → H1[q]? = H[q]?) → va_S A0 H0 H1 locs1 → W p l e R s m args below meth c H1 locs1 (cells + mc) (slots + ms) Q (F0 m (pc + 3) ls (rest))) : W p l e R s m args below meth c H locs cells slots Q (F0 m pc ls st0) := by
  intro T hT X
  rcases hr T hT X with ⟨v, st₀, t, T', L, h0, X', hL, e1, e2, ⟨⟨u, hv, hp, hb⟩, hF⟩, st⟩ | ⟨q, st₀, t, T', L, E, ce, h0, X', hL, e1, e2, ⟨u, hp, hb, hF⟩, hce, hcv, hcl, st⟩
  · cases hv
    obtain ⟨k1, k2, k3⟩ := vx_keep h0 e1 hS hA hf hL hF
    obtain ⟨t2, a1, b1⟩ := kk u t T'.heap (locs ++ L) e1.symm (by rw [← e2]; exact X'.warmed.alike) hp hb k1 k2 k3 T' rfl X'
    exact ⟨t2, st t2 a1, b1⟩
  · obtain ⟨k1, k2, k3⟩ := vx_keep h0 e1 hS hAX hf hL hF
    obtain ⟨t2, a1, b1⟩ := kx E ce q u t T'.heap (locs ++ L) e1.symm (by rw [← e2]; exact X'.warmed.alike) hp hb k1 k2 k3 (by rw [e1]; exact hce) hcv hcl T' rfl X'
    exact ⟨t2, st.trans a1, b1⟩
/-- caught by the row x of this method's table; the rows ahead don't take it -/
theorem vx_catch {own name : String} {E : String} {ce : Cell} {q : Addr} (hown : s.vm.findClass own = some m.cls) (pre : List ExceptionTableEntry) (x : ExceptionTableEntry) (suf : List ExceptionTableEntry) (hsplit : c.exceptionTable.toList = pre ++ x :: suf)
    (hpass : ∀ z ∈ pre, covers z pc = false ∨ (z.catchType ≠ 0 ∧ ∃ nm : String, (Cond.classLink own z.catchType nm).before args s = true ∧ va_Nc E nm s)) (hx : covers x pc = true) (h0 : x.catchType ≠ 0)
    (hlink : (Cond.classLink own x.catchType name).before args s = true) (hcast : (Cond.castable E name).before args s = true) (hcell : H[q]? = some ce) (hv : ce.vm = .none) (hcl : s.vm.findClass E = some ce.cls)
    (kk : W p l e R s m args below meth c H locs cells slots Q (F0 m x.handlerPc ls [.ref q])) : vx_W p l e R s m args below meth c H locs cells slots Q (F0 m pc ls rest) q := by
  intro T hT X
  have hpl : e.platform.magicAccessors = ({} : Platform).magicAccessors := by rw [X.admits.platform]
  obtain ⟨c3, c4, hc3, hc4, hasg⟩ := Cond.castable_spec hcast
  cases Option.some.inj (hc3.symm.trans hcl)
  obtain ⟨c5, hc5, hcl5⟩ := Cond.classLink_spec hown hlink e.platform hpl
  cases Option.some.inj (hc4.symm.trans hc5)
  obtain ⟨vm', X', st⟩ := X.thenCaughtThrough q (g := F0 m pc ls rest) rfl (Steps.refl _) (by rw [hT]; exact hcell) (by rw [hv]; rfl) (by obtain ⟨k9, h9, -⟩ := Vm.findClass_spec hcl; exact ⟨k9, h9⟩) pre x suf hsplit
    (fun z hz => by
      rcases hpass z hz with h | ⟨hz0, nm, hl1, hn1⟩
      · exact Or.inl h
      · obtain ⟨c6, hc6, hcl6⟩ := Cond.classLink_spec hown hl1 e.platform hpl
        obtain ⟨a8, b8, h1, h2, h3⟩ := hn1
        cases Option.some.inj (h1.symm.trans hcl)
        cases Option.some.inj (h2.symm.trans hc6)
        exact Or.inr ⟨hz0, _, hcl6, h3⟩) hx (Or.inr ⟨h0, c4, hcl5, hasg⟩)
  obtain ⟨t, a1, b1⟩ := kk (T.setVm vm') hT X'
  exact ⟨t, st.trans a1, b1⟩
end Rows
section Ends
variable {p : Program} {l : Launch} {e : Env} {R : Room} {s : State} {m : MethodId} {args : Array Value} {below : List Frame} {meth : Method} {c : Code} {H : Heap} {locs : List Loc} {cells slots : Nat} {Q : State → Prop}
variable {mc ms : Nat} {free : Addr → Prop} {A0 A1 : Nat → Prop} {H0 : Heap} {a : Array Value} {ls : Array Slot} {st0 rest : List Value}
variable {Qc : Array Value → State → Outcome → State → Prop} {XC : String → State → State → Prop}
/-- what a body that may throw owes at its end -/
def vx_MQ (below : List Frame) (Qc : Array Value → State → Outcome → State → Prop) (XC : String → State → State → Prop) (a : Array Value) (s : State) (mc ms : Nat) (free : Addr → Prop) : State → Prop := fun t =>
  ∃ o, t.status = .running ∧ Ended t below o ∧ vx_Q Qc XC mc ms free a s o t
theorem vx_ret {g : JFrame} {mc ms : Nat} (k : W p l e R s m args below meth c H locs cells slots (MQ below Qc args s mc ms free) g) : W p l e R s m args below meth c H locs cells slots (vx_MQ below Qc XC args s mc ms free) g := by
  intro T hT X
  obtain ⟨t, a1, o, b1, b2, b3, b4⟩ := k T hT X
  exact ⟨t, a1, o, b1, b2, Or.inl ⟨b3, b4⟩⟩
/-- not caught here: it goes on to the caller -/
theorem vx_widen {g : JFrame} {q : Addr} {k n : Nat} (h1 : cells ≤ k) (h2 : slots ≤ n) (kk : vx_W p l e R s m args below meth c H locs k n Q g q) : vx_W p l e R s m args below meth c H locs cells slots Q g q := fun T hT X => kk T hT (stand_widen X h1 h2)
theorem vx_out {pc : Nat} {E : String} {ce : Cell} {q : Addr} {mc ms : Nat} (hout : ∀ x ∈ c.exceptionTable.toList, covers x pc = false) (hlocks : meth.locks = false) (hcell : H[q]? = some ce) (hv : ce.vm = .none) (hcl : s.vm.findClass E = some ce.cls)
    (hx : ∀ t : State, t.heap = H → s.vm.Alike t.vm → XC E s t) (hf : ∀ z ∈ locs, free z.base) (hc : cells ≤ mc) (hs : slots ≤ ms) :
    vx_W p l e R s m args below meth c H locs cells slots (vx_MQ below Qc XC args s mc ms free) (F0 m pc ls rest) q := by
  intro T hT X
  obtain ⟨st1, hrun, hend, hW, hsm⟩ := X.leaveThrown q (g := F0 m pc ls rest) rfl rfl rfl hout hlocks
  have hcell9 : (T.setFrames (.throwing q :: below)).heap[q]? = some ce := by
    show T.heap[q]? = some ce
    rw [hT]; exact hcell
  exact ⟨_, st1, .threw q, hrun, hend, Or.inr ⟨q, rfl, E, ce, locs, hx _ hT hW.alike, hcell9, hv, hcl, hW, hsm.mono hc hs, hf⟩⟩
theorem vx_frame {U : State} {k n : Nat} (h : s.sameButNew ({ U with vm := s.vm } : State) locs k n) : s.heap.size ≤ U.heap.size ∧ ∀ q : Nat, q < s.heap.size → (∀ z ∈ locs, z.base ≠ q) → U.heap[q]? = s.heap[q]? := by
  obtain ⟨-, h2, -, -, -, h6⟩ := h
  refine ⟨h2, fun q hq hz => ?_⟩
  obtain ⟨c9, e1, e2, e3, e4⟩ := h6 q _ (Array.getElem?_eq_getElem hq)
  have hs : c9.slots = (s.heap[q]).slots := Array.ext_getElem? fun i => e4 i fun hm => hz _ hm rfl
  have h9 : c9 = s.heap[q] := by
    rw [hs] at e2
    exact e2
  have e5 : U.heap[q]? = some c9 := e1
  rw [e5, h9, Array.getElem?_eq_getElem hq]
/-- the words of a throw but the four that speak of the heap -/
def vx_no (w : Cond) : Bool := decide (w ≠ .isRef (.static Bundle.tN "UNASSIGNED_STACK" Bundle.steD)) && decide (w ≠ .isRef (.static Bundle.tN "SUPPRESSED_SENTINEL" Bundle.listD)) && decide (w ≠ .laysStatic Bundle.tN "UNASSIGNED_STACK" Bundle.steD) && decide (w ≠ .laysStatic Bundle.tN "SUPPRESSED_SENTINEL" Bundle.listD)
def vx_at0 (own : String) (ic : Nat) (X : String) (names : List String) : List Cond := (Bundle.ownAtoms0 own ic X names).filter vx_no
def vx_atS (own : String) (ic : Nat) (X : String) (names : List String) : List Cond := (Bundle.ownAtoms own ic X names).filter vx_no
/-- a word that the tables alone decide, or a good one -/
def vx_ot (w : Cond) : Bool := w.onTables || goodWord w
theorem vx_ot_at {args a' : Array Value} {s U : State} {w : Cond} (hW : s.WarmedH U.vm) (hvm : s.vm = U.vm) (hg : vx_ot w = true) (h : w.before args s = true) : w.before a' U = true := by
  simp only [vx_ot, Bool.or_eq_true] at hg
  rcases hg with hg | hg
  · exact va_tabs hg hvm h
  · exact word_at hW (good_of_word hg) h
/-- a list's words: the good ones out of the method's own list, the others by premises of their own -/
theorem vx_hat {args : Array Value} {s : State} {L B : List Cond} (h1 : ∀ w ∈ L.filter goodWord, w.before args s = true) (h2 : ∀ w ∈ L.filter (fun w => !goodWord w), w ∈ B) (h3 : ∀ w ∈ B, w.before args s = true) : ∀ w ∈ L, w.before args s = true := by
  intro w hw
  by_cases g : goodWord w = true
  · exact h1 w (List.mem_filter.mpr ⟨hw, g⟩)
  · refine h3 w (h2 w (List.mem_filter.mpr ⟨hw, ?_⟩))
    show (!goodWord w) = true
    cases hgw : goodWord w
    · rfl
    · exact absurd hgw g
theorem vx_c {args : Array Value} {s : State} {w : Cond} {B : List Cond} (h : w.before args s = true) (t : ∀ w ∈ B, w.before args s = true) : ∀ w' ∈ w :: B, w'.before args s = true := fun w' h' => (List.mem_cons.mp h').elim (fun e => by rw [e]; exact h) (t w')
theorem vx_n {args : Array Value} {s : State} : ∀ w ∈ ([] : List Cond), w.before args s = true := fun _ h => nomatch h
theorem vx_own {args : Array Value} {s : State} {L : List Cond} (h1 : ∀ w ∈ L.filter vx_no, w.before args s = true)
    (hU : (Cond.isRef (.static Bundle.tN "UNASSIGNED_STACK" Bundle.steD)).before args s = true) (hN : (Cond.isRef (.static Bundle.tN "SUPPRESSED_SENTINEL" Bundle.listD)).before args s = true)
    (lU : (Cond.laysStatic Bundle.tN "UNASSIGNED_STACK" Bundle.steD).before args s = true) (lN : (Cond.laysStatic Bundle.tN "SUPPRESSED_SENTINEL" Bundle.listD).before args s = true) : ∀ w ∈ L, w.before args s = true := by
  intro w hw
  by_cases e1 : w = .isRef (.static Bundle.tN "UNASSIGNED_STACK" Bundle.steD)
  · rw [e1]; exact hU
  · by_cases e2 : w = .isRef (.static Bundle.tN "SUPPRESSED_SENTINEL" Bundle.listD)
    · rw [e2]; exact hN
    · by_cases e3 : w = .laysStatic Bundle.tN "UNASSIGNED_STACK" Bundle.steD
      · rw [e3]; exact lU
      · by_cases e4 : w = .laysStatic Bundle.tN "SUPPRESSED_SENTINEL" Bundle.listD
        · rw [e4]; exact lN
        · exact h1 w (List.mem_filter.mpr ⟨hw, by unfold vx_no; rw [decide_eq_true e1, decide_eq_true e2, decide_eq_true e3, decide_eq_true e4]; rfl⟩)
/-- where a static field lies, its class's statics cell in H -/
def vx_L (C n d : String) (A : Nat → Prop) (U : State) (H : Heap) : Prop := ∃ (c : ClassId) (k : Class) (i : Nat) (f : Field) (a : Nat) (cell : Cell), U.vm.findClass C = some c ∧ U.fieldFound? C n d = some (c, k, i, f) ∧ f.isStatic = true ∧ k.statics = some a ∧ H[a]? = some cell ∧ cell.vm.isStatics = true ∧ cell.cls = c ∧ f.slot < cell.slots.size ∧ k.staticTypes[f.slot]? = some f.type ∧ ¬ A a
theorem vx_L.moved {C n d : String} {A : Nat → Prop} {u U : State} {H : Heap} (hvm : u.vm.Alike U.vm) (h : vx_L C n d A u H) : vx_L C n d A U H := by
  obtain ⟨c, k, i, f, a, cell, h1, h2, h3, h4, h5, h6, h7, h8, h9, h10⟩ := h
  obtain ⟨k', hi', he⟩ := State.fieldFound?_setVm hvm h2
  exact ⟨c, k', i, f, a, cell, by rw [hvm.findClass]; exact h1, hi', h3, by rw [he]; exact h4, h5, h6, h7, h8, by rw [he]; exact h9, h10⟩
theorem vx_L.kept {C n d : String} {A : Nat → Prop} {U : State} {H H1 : Heap} (h : vx_L C n d A U H) (hq : ∀ a : Nat, a < H.size → ¬ A a → H1[a]? = H[a]?) : vx_L C n d A U H1 := by
  obtain ⟨c, k, i, f, a, cell, h1, h2, h3, h4, h5, h6, h7, h8, h9, h10⟩ := h
  exact ⟨c, k, i, f, a, cell, h1, h2, h3, h4, by rw [hq a (Array.getElem?_eq_some_iff.mp h5).1 h10]; exact h5, h6, h7, h8, h9, h10⟩
theorem vx_L.narrow {C n d : String} {A B : Nat → Prop} {U : State} {H : Heap} (h : vx_L C n d A U H) (hAB : ∀ q, B q → A q) : vx_L C n d B U H := by
  obtain ⟨c, k, i, f, a, cell, h1, h2, h3, h4, h5, h6, h7, h8, h9, h10⟩ := h
  exact ⟨c, k, i, f, a, cell, h1, h2, h3, h4, h5, h6, h7, h8, h9, fun z => h10 (hAB _ z)⟩
theorem vx_L.word {C n d : String} {A : Nat → Prop} {s : State} {args : Array Value} (h : vx_L C n d A s s.heap) : (Cond.laysStatic C n d).before args s = true := by
  obtain ⟨c, k, i, f, a, cell, h1, h2, h3, h4, h5, h6, h7, h8, h9, -⟩ := h
  show (Cond.laysStatic C n d).holds args s none s [] = true
  exact Cond.laysStatic_of h1 h2 h3 h4 h5 h6 h7 h8 h9
/-- .. and what it holds: null or some reference -/
def vx_Zq (C n d : String) (A : Nat → Prop) (U : State) (H : Heap) : Prop := va_Zq C n d A U H ∧ vx_L C n d A U H
theorem vx_Zq.moved {C n d : String} {A : Nat → Prop} {u U : State} {H : Heap} (hvm : u.vm.Alike U.vm) (h : vx_Zq C n d A u H) : vx_Zq C n d A U H := ⟨va_Zq.moved hvm h.1, vx_L.moved hvm h.2⟩
theorem vx_Zq.kept {C n d : String} {A : Nat → Prop} {U : State} {H H1 : Heap} (h : vx_Zq C n d A U H) (hq : ∀ a : Nat, a < H.size → ¬ A a → H1[a]? = H[a]?) : vx_Zq C n d A U H1 := ⟨va_Zq.kept h.1 hq, vx_L.kept h.2 hq⟩
theorem vx_Zq.narrow {C n d : String} {A B : Nat → Prop} {U : State} {H : Heap} (h : vx_Zq C n d A U H) (hAB : ∀ q, B q → A q) : vx_Zq C n d B U H := ⟨va_Zq.narrow h.1 hAB, vx_L.narrow h.2 hAB⟩
theorem vx_Zqof {args : Array Value} {s : State} {C n d : String} {A : Nat → Prop} (hl : (Cond.laysStatic C n d).before args s = true) (hini : (Cond.initialized C).before args s = true) (h : (Cond.isRef (.static C n d)).before args s = true) (hA : ∀ a : Nat, a < s.heap.size → ¬ A a) : vx_Zq C n d A s s.heap := by
  refine ⟨va_Zqof hl hini h hA, ?_⟩
  obtain ⟨c, k, i, f, a, cell, h1, h2, h3, h4, h5, h6, h7, h8, h9⟩ := Cond.laysStatic_spec hl
  exact ⟨c, k, i, f, a, cell, h1, h2, h3, h4, h5, h6, h7, h8, h9, hA a (Array.getElem?_eq_some_iff.mp h5).1⟩
theorem vx_isRef {C n d : String} {v : Value} {A : Nat → Prop} {s : State} {args : Array Value} (h : va_Z C n d v A s s.heap) (hv : v.isRef = true) : (Cond.isRef (.static C n d)).before args s = true := by
  obtain ⟨cf, kf, fi, f, a, cell, h1, h2, h3, h4, h5, h6, h7, -⟩ := h
  have he : (Term.static C n d).eval args s none [] s = some v := by
    simp [Term.eval, State.fieldNamed?, h1, h2, h4, h5, h6, h7]
  simp only [Cond.before, Cond.holds, Cond.value, he]
  cases v <;> simp_all [Value.isRef]
theorem vx_isRefq {C n d : String} {A : Nat → Prop} {s : State} {args : Array Value} (h : va_Zq C n d A s s.heap) : (Cond.isRef (.static C n d)).before args s = true := by
  rcases h with h | ⟨t, h⟩
  · exact vx_isRef h rfl
  · exact vx_isRef h rfl
/-- the same frame, seen from here: as if the method were called anew in this heap -/
theorem vx_rebase {T : State} (X : Stand p l e R s m args below meth c T locs cells slots) {R' : Room} (hf : R'.frames ≤ R.frames) (hl : R'.locals ≤ R.locals) (hc : cells + R'.cells ≤ R.cells) (hs : slots + R'.slots ≤ R.slots) :
    Stand p l e R' ((T.setVm s.vm).setFrames (.invoking m args :: below)) m args below meth c T [] 0 0 := by
  have htop : (T.setVm s.vm).topJava?.isSome := X.here.top
  have hF : ((T.setVm s.vm).setFrames (.invoking m args :: below)).frames = .invoking m args :: below := State.frames_setFrames _ (State.cur_lt_of_top htop)
  obtain ⟨g₀, hg0⟩ := Option.isSome_iff_exists.mp htop
  obtain ⟨r, hr⟩ := State.topJava?_eq_some.mp hg0
  have hl9 : e.platform.stackLimits (T.setVm s.vm).me = e.platform.stackLimits s.me := X.limits
  have hb9 : (T.setVm s.vm).me.stackBytes = s.me.stackBytes := X.bytes
  refine ⟨X.admits, X.cas, X.clock, hF, ?_, X.hears, X.method, X.code, X.here, X.tail, X.warmed, ?_, ?_, ?_⟩
  · have h := X.room
    have hU : ((T.setVm s.vm).setFrames (.invoking m args :: below)).localsInUse = s.localsInUse := by
      rw [State.localsInUse_invoking hF (meth := meth) (c := c) X.method X.code, State.localsInUse_invoking X.frames X.method X.code]
    simp only [State.hasRoom, Bool.and_eq_true, decide_eq_true_eq] at h ⊢
    obtain ⟨⟨⟨⟨h1, h2, h3, h4, h5, h6⟩, h7⟩, h8⟩, h9⟩ := h
    rw [X.frames, List.length_cons] at h2 h3
    have q1 := X.heapSize
    have q2 := X.used
    simp only [hF, hU, List.length_cons, State.stackLimits_setFrames, State.stackBytes_setFrames, hl9, hb9]
    refine ⟨⟨⟨⟨by omega, by omega, by omega, by omega, by omega, h6⟩, ?_⟩, ?_⟩, X.book⟩
    · show T.heap.size + R'.cells ≤ e.platform.maxCells
      omega
    · show T.slotsUsed + R'.slots ≤ e.platform.maxSlots
      omega
  · rw [State.stackLimits_setFrames]; rfl
  · rw [State.stackBytes_setFrames]; rfl
  · refine ⟨?_, Nat.le_refl _, Nat.le_refl _, ?_, ?_, fun a c9 h9 => ⟨c9, h9, rfl, rfl, fun _ _ => rfl⟩⟩
    · obtain ⟨t, ht, -⟩ := State.frames_cons hr
      show T.setVm s.vm = { ((T.setVm s.vm).setFrames (.invoking m args :: below)).setFrames (T.setVm s.vm).frames with heap := T.heap, slotsUsed := T.slotsUsed }
      rw [State.setFrames_setFrames, State.setFrames_self ht]
      rfl
    · show T.slotsUsed = T.slotsUsed + ((T.heap.toList.drop T.heap.size).map (·.slots.size)).sum
      rw [List.drop_eq_nil_of_le (Nat.le_of_eq Array.length_toList)]
      rfl
    · show ((T.heap.toList.drop T.heap.size).map (·.slots.size)).sum ≤ 0
      rw [List.drop_eq_nil_of_le (Nat.le_of_eq Array.length_toList)]
      exact Nat.le_refl _
/-- 'throw new E()': new; dup; invokespecial; athrow -/
theorem vx_throw0 {cc : ByteArray} {pc : Nat} (hexec : p.tables.exec = Jvm.exec) (hb : c.code = cc) (hl : l.stackTraces = false) {own cls : String} {names : List String} {ik ic mc ms : Nat} {A : Nat → Prop}
    (hown : s.vm.findClass own = some m.cls) (hcls : Bundle.fit cls = true) (hnames : ∀ n ∈ names, Bundle.fit n = true)
    (hk : (Cond.classLink own ik cls).before args s = true) (hini : (Cond.initialized cls).before args s = true) (hat : ∀ w ∈ vx_at0 own ic cls names, w.before args s = true)
    (hgood : ∀ w ∈ Cond.classLink own ik cls :: Cond.initialized cls :: vx_at0 own ic cls names, vx_ot w = true)
    (hU : vx_Zq Bundle.tN "UNASSIGNED_STACK" Bundle.steD A s s.heap) (hN : vx_Zq Bundle.tN "SUPPRESSED_SENTINEL" Bundle.listD A s s.heap) (hS : va_S A s.heap H locs) (hsize : ls.size = c.maxLocals)
    (d0 : decode cc pc = .ok (.new ik, 3)) (d3 : decode cc (pc + 3) = .ok (.dup, 1)) (d4 : decode cc (pc + 4) = .ok (.invokespecial ic, 3)) (d7 : decode cc (pc + 7) = .ok (.athrow, 1))
    (hout : ∀ x ∈ c.exceptionTable.toList, covers x (pc + 7) = false)
    (hRframes : names.length + 3 < R.frames) (hRlocals : (rest.map fun v => v.category).sum + (13 * (names.length + 1) + 42) ≤ R.locals) (hRcells : cells + 1 ≤ R.cells) (hRslots : slots + 6 ≤ R.slots) (hlocks : meth.locks = false)
    (hx : ∀ t : State, s.vm.Alike t.vm → H.size ≤ t.heap.size → (∀ q : Nat, q < H.size → t.heap[q]? = H[q]?) → XC cls s t)
    (hf : ∀ z ∈ locs, free z.base) (hc : cells + 1 ≤ mc) (hs : slots + 6 ≤ ms) :
    W p l e R s m args below meth c H locs cells slots (vx_MQ below Qc XC args s mc ms free) (F0 m pc ls rest) := by
  intro T hT X
  have htr : e.platform.stackTraces = false := (show e.platform.stackTraces = l.stackTraces by rw [X.admits.platform]).trans hl
  have Y := vx_rebase X (R' := { frames := R.frames, locals := R.locals, cells := 1, slots := 6 }) (Nat.le_refl _) (Nat.le_refl _) hRcells hRslots
  obtain ⟨s', hA⟩ : ∃ z, z = (T.setVm s.vm).setFrames (.invoking m args :: below) := ⟨_, rfl⟩
  rw [← hA] at Y
  have hvm : s'.vm = s.vm := by rw [hA]; rfl
  have hhp : s'.heap = H := by rw [hA]; exact hT
  have hW0 : s.WarmedH s'.vm := by rw [hvm]; exact State.WarmedH.refl s
  have hat' : ∀ w ∈ vx_at0 own ic cls names, w.before args s' = true := fun w hw => vx_ot_at hW0 hvm.symm (hgood w (List.mem_cons_of_mem _ (List.mem_cons_of_mem _ hw))) (hat w hw)
  have hk' : (Cond.classLink own ik cls).before args s' = true := vx_ot_at hW0 hvm.symm (hgood _ List.mem_cons_self) hk
  have hini' : (Cond.initialized cls).before args s' = true := vx_ot_at hW0 hvm.symm (hgood _ (List.mem_cons_of_mem _ List.mem_cons_self)) hini
  have hU' : vx_Zq Bundle.tN "UNASSIGNED_STACK" Bundle.steD A s' s'.heap := by rw [hhp]; exact vx_Zq.moved hW0.alike (hU.kept hS.2.1)
  have hN' : vx_Zq Bundle.tN "SUPPRESSED_SENTINEL" Bundle.listD A s' s'.heap := by rw [hhp]; exact vx_Zq.moved hW0.alike (hN.kept hS.2.1)
  have h : ∀ w ∈ Bundle.ownAtoms0 own ic cls names, w.before args s' = true := vx_own hat' (vx_isRefq hU'.1) (vx_isRefq hN'.1) hU'.2.word hN'.2.word
  have hown' : s'.vm.findClass own = some m.cls := by rw [hvm]; exact hown
  have hins : (Cond.instantiable cls 6).before args s' = true := h _ (by simp [Bundle.ownAtoms0])
  obtain ⟨vm₁, cX, kX, hfX, hkX, -, -, X₁, st1⟩ := Y.newCold hexec (own := own) (C := cls) (index := ik) (n := 6) hown' hk' hins hini'
    (g := F0 m pc ls rest) rfl (by rw [hb]; exact d0) (Nat.le_refl _) (Nat.le_refl _)
  generalize hT1 : (T.setVm vm₁).pushCell { cls := cX, slots := kX.instanceTypes.map defaultValue, vm := .none } = T1 at X₁ st1
  have hcat : (Value.ref T.heap.size).category = 1 := rfl
  have hcellA : T1.heap[T.heap.size]? = some (freshCell cX kX) := by rw [← hT1]; exact State.heap_pushCell_size _ _
  have d3' : decode c.code (pc + 3) = .ok (.dup, 1) := by rw [hb]; exact d3
  obtain ⟨U, hsteps, hrun, hend, hW, hsame, ce, hce, hO⟩ := X₁.ctorThrow0 hexec htr (own := own) (cls := cls) (names := names) (ic := ic) hown' hcls hnames h (fun x hx => nomatch hx) hfX hkX hcellA (by rw [hhp, hT]; exact Nat.le_refl _)
    (g := { method := m, pc := pc + 4, locals := ls, stack := .ref T.heap.size :: .ref T.heap.size :: rest, locked := none }) rfl hsize rfl rfl (rest := rest) rfl
    (by rw [hb]; exact d4) (by rw [hb]; exact d7) hout hRframes (by simp only [List.map_cons, List.sum_cons, hcat]; omega) hlocks
  obtain ⟨f1, f2⟩ := vx_frame hsame
  rw [hhp] at f1 f2
  have hWs : s.WarmedH U.vm := State.WarmedH.trans hW0 hW
  have hcl : s.vm.findClass cls = some ce.cls := by
    have h9 := hO.cls
    rw [hvm] at h9
    exact h9
  have hall : s.sameButNew ({ U with vm := s.vm } : State) locs mc ms := by
    subst hA
    obtain ⟨e1, e2⟩ := hsame
    rw [State.setFrames_setFrames] at e1
    have h2 : (T.setVm s.vm).sameButNew ({ U with vm := s.vm } : State) [] (0 + 1) (0 + 6) := ⟨e1, e2⟩
    have h3 := X.same.trans h2
    rw [List.append_nil] at h3
    exact h3.mono hc hs
  refine ⟨U, ?_, .threw T.heap.size, hrun, hend, Or.inr ⟨T.heap.size, rfl, cls, ce, locs, hx U hWs.alike f1 (fun q hq => f2 q hq (fun z hz => nomatch hz)), hce, hO.vm, hcl, hWs, hall, hf⟩⟩
  refine st1 _ ?_
  show Steps p.tables e below (T1.setTop { method := m, pc := pc + 3, locals := ls, stack := .ref T.heap.size :: rest, locked := none }) _
  jvm_step X₁.here [X₁.here.top, hexec, d3', Value.category]
  exact hsteps
/-- 'throw new E("text")': new; dup; ldc; invokespecial; athrow -/
theorem vx_throwS {cc : ByteArray} {pc : Nat} (hexec : p.tables.exec = Jvm.exec) (hb : c.code = cc) (hl : l.stackTraces = false) {own cls text : String} {names : List String} {ik is ic mc ms sa : Nat} {A : Nat → Prop}
    (hown : s.vm.findClass own = some m.cls) (hcls : Bundle.fit cls = true) (hnames : ∀ n ∈ names, Bundle.fit n = true)
    (hk : (Cond.classLink own ik cls).before args s = true) (hini : (Cond.initialized cls).before args s = true) (hstr : vk_R own is text sa s) (hat : ∀ w ∈ vx_atS own ic cls names, w.before args s = true)
    (hgood : ∀ w ∈ Cond.classLink own ik cls :: Cond.initialized cls :: vx_atS own ic cls names, vx_ot w = true)
    (hU : vx_Zq Bundle.tN "UNASSIGNED_STACK" Bundle.steD A s s.heap) (hN : vx_Zq Bundle.tN "SUPPRESSED_SENTINEL" Bundle.listD A s s.heap) (hS : va_S A s.heap H locs) (hsize : ls.size = c.maxLocals)
    (d0 : decode cc pc = .ok (.new ik, 3)) (d3 : decode cc (pc + 3) = .ok (.dup, 1)) (d4 : decode cc (pc + 4) = .ok (.ldc is, 2)) (d6 : decode cc (pc + 6) = .ok (.invokespecial ic, 3)) (d9 : decode cc (pc + 9) = .ok (.athrow, 1))
    (hout : ∀ x ∈ c.exceptionTable.toList, covers x (pc + 9) = false)
    (hRframes : names.length + 3 < R.frames) (hRlocals : (rest.map fun v => v.category).sum + (13 * (names.length + 1) + 43) ≤ R.locals) (hRcells : cells + 1 ≤ R.cells) (hRslots : slots + 6 ≤ R.slots) (hlocks : meth.locks = false)
    (hx : ∀ t : State, s.vm.Alike t.vm → H.size ≤ t.heap.size → (∀ q : Nat, q < H.size → t.heap[q]? = H[q]?) → XC cls s t)
    (hf : ∀ z ∈ locs, free z.base) (hc : cells + 1 ≤ mc) (hs : slots + 6 ≤ ms) :
    W p l e R s m args below meth c H locs cells slots (vx_MQ below Qc XC args s mc ms free) (F0 m pc ls rest) := by
  intro T hT X
  have htr : e.platform.stackTraces = false := (show e.platform.stackTraces = l.stackTraces by rw [X.admits.platform]).trans hl
  have Y := vx_rebase X (R' := { frames := R.frames, locals := R.locals, cells := 1, slots := 6 }) (Nat.le_refl _) (Nat.le_refl _) hRcells hRslots
  obtain ⟨s', hA⟩ : ∃ z, z = (T.setVm s.vm).setFrames (.invoking m args :: below) := ⟨_, rfl⟩
  rw [← hA] at Y
  have hvm : s'.vm = s.vm := by rw [hA]; rfl
  have hhp : s'.heap = H := by rw [hA]; exact hT
  have hW0 : s.WarmedH s'.vm := by rw [hvm]; exact State.WarmedH.refl s
  have hat' : ∀ w ∈ vx_atS own ic cls names, w.before args s' = true := fun w hw => vx_ot_at hW0 hvm.symm (hgood w (List.mem_cons_of_mem _ (List.mem_cons_of_mem _ hw))) (hat w hw)
  have hk' : (Cond.classLink own ik cls).before args s' = true := vx_ot_at hW0 hvm.symm (hgood _ List.mem_cons_self) hk
  have hini' : (Cond.initialized cls).before args s' = true := vx_ot_at hW0 hvm.symm (hgood _ (List.mem_cons_of_mem _ List.mem_cons_self)) hini
  have hU' : vx_Zq Bundle.tN "UNASSIGNED_STACK" Bundle.steD A s' s'.heap := by rw [hhp]; exact vx_Zq.moved hW0.alike (hU.kept hS.2.1)
  have hN' : vx_Zq Bundle.tN "SUPPRESSED_SENTINEL" Bundle.listD A s' s'.heap := by rw [hhp]; exact vx_Zq.moved hW0.alike (hN.kept hS.2.1)
  have h : ∀ w ∈ Bundle.ownAtoms own ic cls names, w.before args s' = true := vx_own hat' (vx_isRefq hU'.1) (vx_isRefq hN'.1) hU'.2.word hN'.2.word
  have hown' : s'.vm.findClass own = some m.cls := by rw [hvm]; exact hown
  have hins : (Cond.instantiable cls 6).before args s' = true := h _ (by simp [Bundle.ownAtoms])
  obtain ⟨vm₁, cX, kX, hfX, hkX, -, -, X₁, st1⟩ := Y.newCold hexec (own := own) (C := cls) (index := ik) (n := 6) hown' hk' hins hini'
    (g := F0 m pc ls rest) rfl (by rw [hb]; exact d0) (Nat.le_refl _) (Nat.le_refl _)
  generalize hT1 : (T.setVm vm₁).pushCell { cls := cX, slots := kX.instanceTypes.map defaultValue, vm := .none } = T1 at X₁ st1
  have hcat : (Value.ref T.heap.size).category = 1 := rfl
  have hcellA : T1.heap[T.heap.size]? = some (freshCell cX kX) := by rw [← hT1]; exact State.heap_pushCell_size _ _
  have d3' : decode c.code (pc + 3) = .ok (.dup, 1) := by rw [hb]; exact d3
  have d4' : decode c.code (pc + 4) = .ok (.ldc is, 2) := by rw [hb]; exact d4
  have hstr' : vk_R own is text sa s' := vk_R.warm hW0 hstr
  obtain ⟨U, hsteps, hrun, hend, hW, hsame, ce, hce, hO⟩ := X₁.ctorThrowS hexec htr (own := own) (cls := cls) (names := names) (ic := ic) hown' hcls hnames h (fun x hx => nomatch hx) hfX hkX hcellA (by rw [hhp, hT]; exact Nat.le_refl _) (msg := .ref sa) rfl
    (g := { method := m, pc := pc + 6, locals := ls, stack := .ref sa :: .ref T.heap.size :: .ref T.heap.size :: rest, locked := none }) rfl hsize rfl rfl (rest := rest) rfl
    (by rw [hb]; exact d6) (by rw [hb]; exact d9) hout hRframes (by simp only [List.map_cons, List.sum_cons, hcat]; omega) hlocks
  obtain ⟨f1, f2⟩ := vx_frame hsame
  rw [hhp] at f1 f2
  have hWs : s.WarmedH U.vm := State.WarmedH.trans hW0 hW
  have hcl : s.vm.findClass cls = some ce.cls := by
    have h9 := hO.cls
    rw [hvm] at h9
    exact h9
  have hall : s.sameButNew ({ U with vm := s.vm } : State) locs mc ms := by
    subst hA
    obtain ⟨e1, e2⟩ := hsame
    rw [State.setFrames_setFrames] at e1
    have h2 : (T.setVm s.vm).sameButNew ({ U with vm := s.vm } : State) [] (0 + 1) (0 + 6) := ⟨e1, e2⟩
    have h3 := X.same.trans h2
    rw [List.append_nil] at h3
    exact h3.mono hc hs
  refine ⟨U, ?_, .threw T.heap.size, hrun, hend, Or.inr ⟨T.heap.size, rfl, cls, ce, locs, hx U hWs.alike f1 (fun q hq => f2 q hq (fun z hz => nomatch hz)), hce, hO.vm, hcl, hWs, hall, hf⟩⟩
  refine st1 _ ?_
  show Steps p.tables e below (T1.setTop { method := m, pc := pc + 3, locals := ls, stack := .ref T.heap.size :: rest, locked := none }) _
  jvm_step X₁.here [X₁.here.top, hexec, d3', Value.category]
  exact X₁.ldcString hexec (own := own) (text := text) (index := is) (a := sa) hown' hstr'.1 hstr'.2
    (g := { method := m, pc := pc + 4, locals := ls, stack := .ref T.heap.size :: .ref T.heap.size :: rest, locked := none }) rfl d4' _ hsteps
/-- 'throw new E("text")', the text by a wide index -/
theorem vx_throwSW {cc : ByteArray} {pc : Nat} (hexec : p.tables.exec = Jvm.exec) (hb : c.code = cc) (hl : l.stackTraces = false) {own cls text : String} {names : List String} {ik is ic mc ms sa : Nat} {A : Nat → Prop}
    (hown : s.vm.findClass own = some m.cls) (hcls : Bundle.fit cls = true) (hnames : ∀ n ∈ names, Bundle.fit n = true)
    (hk : (Cond.classLink own ik cls).before args s = true) (hini : (Cond.initialized cls).before args s = true) (hstr : vk_R own is text sa s) (hat : ∀ w ∈ vx_atS own ic cls names, w.before args s = true)
    (hgood : ∀ w ∈ Cond.classLink own ik cls :: Cond.initialized cls :: vx_atS own ic cls names, vx_ot w = true)
    (hU : vx_Zq Bundle.tN "UNASSIGNED_STACK" Bundle.steD A s s.heap) (hN : vx_Zq Bundle.tN "SUPPRESSED_SENTINEL" Bundle.listD A s s.heap) (hS : va_S A s.heap H locs) (hsize : ls.size = c.maxLocals)
    (d0 : decode cc pc = .ok (.new ik, 3)) (d3 : decode cc (pc + 3) = .ok (.dup, 1)) (d4 : decode cc (pc + 4) = .ok (.ldc_w is, 3)) (d7 : decode cc (pc + 7) = .ok (.invokespecial ic, 3)) (d10 : decode cc (pc + 10) = .ok (.athrow, 1))
    (hout : ∀ x ∈ c.exceptionTable.toList, covers x (pc + 10) = false)
    (hRframes : names.length + 3 < R.frames) (hRlocals : (rest.map fun v => v.category).sum + (13 * (names.length + 1) + 43) ≤ R.locals) (hRcells : cells + 1 ≤ R.cells) (hRslots : slots + 6 ≤ R.slots) (hlocks : meth.locks = false)
    (hx : ∀ t : State, s.vm.Alike t.vm → H.size ≤ t.heap.size → (∀ q : Nat, q < H.size → t.heap[q]? = H[q]?) → XC cls s t)
    (hf : ∀ z ∈ locs, free z.base) (hc : cells + 1 ≤ mc) (hs : slots + 6 ≤ ms) :
    W p l e R s m args below meth c H locs cells slots (vx_MQ below Qc XC args s mc ms free) (F0 m pc ls rest) := by
  intro T hT X
  have htr : e.platform.stackTraces = false := (show e.platform.stackTraces = l.stackTraces by rw [X.admits.platform]).trans hl
  have Y := vx_rebase X (R' := { frames := R.frames, locals := R.locals, cells := 1, slots := 6 }) (Nat.le_refl _) (Nat.le_refl _) hRcells hRslots
  obtain ⟨s', hA⟩ : ∃ z, z = (T.setVm s.vm).setFrames (.invoking m args :: below) := ⟨_, rfl⟩
  rw [← hA] at Y
  have hvm : s'.vm = s.vm := by rw [hA]; rfl
  have hhp : s'.heap = H := by rw [hA]; exact hT
  have hW0 : s.WarmedH s'.vm := by rw [hvm]; exact State.WarmedH.refl s
  have hat' : ∀ w ∈ vx_atS own ic cls names, w.before args s' = true := fun w hw => vx_ot_at hW0 hvm.symm (hgood w (List.mem_cons_of_mem _ (List.mem_cons_of_mem _ hw))) (hat w hw)
  have hk' : (Cond.classLink own ik cls).before args s' = true := vx_ot_at hW0 hvm.symm (hgood _ List.mem_cons_self) hk
  have hini' : (Cond.initialized cls).before args s' = true := vx_ot_at hW0 hvm.symm (hgood _ (List.mem_cons_of_mem _ List.mem_cons_self)) hini
  have hU' : vx_Zq Bundle.tN "UNASSIGNED_STACK" Bundle.steD A s' s'.heap := by rw [hhp]; exact vx_Zq.moved hW0.alike (hU.kept hS.2.1)
  have hN' : vx_Zq Bundle.tN "SUPPRESSED_SENTINEL" Bundle.listD A s' s'.heap := by rw [hhp]; exact vx_Zq.moved hW0.alike (hN.kept hS.2.1)
  have h : ∀ w ∈ Bundle.ownAtoms own ic cls names, w.before args s' = true := vx_own hat' (vx_isRefq hU'.1) (vx_isRefq hN'.1) hU'.2.word hN'.2.word
  have hown' : s'.vm.findClass own = some m.cls := by rw [hvm]; exact hown
  have hins : (Cond.instantiable cls 6).before args s' = true := h _ (by simp [Bundle.ownAtoms])
  obtain ⟨vm₁, cX, kX, hfX, hkX, -, -, X₁, st1⟩ := Y.newCold hexec (own := own) (C := cls) (index := ik) (n := 6) hown' hk' hins hini'
    (g := F0 m pc ls rest) rfl (by rw [hb]; exact d0) (Nat.le_refl _) (Nat.le_refl _)
  generalize hT1 : (T.setVm vm₁).pushCell { cls := cX, slots := kX.instanceTypes.map defaultValue, vm := .none } = T1 at X₁ st1
  have hcat : (Value.ref T.heap.size).category = 1 := rfl
  have hcellA : T1.heap[T.heap.size]? = some (freshCell cX kX) := by rw [← hT1]; exact State.heap_pushCell_size _ _
  have d3' : decode c.code (pc + 3) = .ok (.dup, 1) := by rw [hb]; exact d3
  have d4' : decode c.code (pc + 4) = .ok (.ldc_w is, 3) := by rw [hb]; exact d4
  have hstr' : vk_R own is text sa s' := vk_R.warm hW0 hstr
  obtain ⟨U, hsteps, hrun, hend, hW, hsame, ce, hce, hO⟩ := X₁.ctorThrowS hexec htr (own := own) (cls := cls) (names := names) (ic := ic) hown' hcls hnames h (fun x hx => nomatch hx) hfX hkX hcellA (by rw [hhp, hT]; exact Nat.le_refl _) (msg := .ref sa) rfl
    (g := { method := m, pc := pc + 7, locals := ls, stack := .ref sa :: .ref T.heap.size :: .ref T.heap.size :: rest, locked := none }) rfl hsize rfl rfl (rest := rest) rfl
    (by rw [hb]; exact d7) (by rw [hb]; exact d10) hout hRframes (by simp only [List.map_cons, List.sum_cons, hcat]; omega) hlocks
  obtain ⟨f1, f2⟩ := vx_frame hsame
  rw [hhp] at f1 f2
  have hWs : s.WarmedH U.vm := State.WarmedH.trans hW0 hW
  have hcl : s.vm.findClass cls = some ce.cls := by
    have h9 := hO.cls
    rw [hvm] at h9
    exact h9
  have hall : s.sameButNew ({ U with vm := s.vm } : State) locs mc ms := by
    subst hA
    obtain ⟨e1, e2⟩ := hsame
    rw [State.setFrames_setFrames] at e1
    have h2 : (T.setVm s.vm).sameButNew ({ U with vm := s.vm } : State) [] (0 + 1) (0 + 6) := ⟨e1, e2⟩
    have h3 := X.same.trans h2
    rw [List.append_nil] at h3
    exact h3.mono hc hs
  refine ⟨U, ?_, .threw T.heap.size, hrun, hend, Or.inr ⟨T.heap.size, rfl, cls, ce, locs, hx U hWs.alike f1 (fun q hq => f2 q hq (fun z hz => nomatch hz)), hce, hO.vm, hcl, hWs, hall, hf⟩⟩
  refine st1 _ ?_
  show Steps p.tables e below (T1.setTop { method := m, pc := pc + 3, locals := ls, stack := .ref T.heap.size :: rest, locked := none }) _
  jvm_step X₁.here [X₁.here.top, hexec, d3', Value.category]
  exact X₁.ldcStringW hexec (own := own) (text := text) (index := is) (a := sa) hown' hstr'.1 hstr'.2
    (g := { method := m, pc := pc + 4, locals := ls, stack := .ref T.heap.size :: .ref T.heap.size :: rest, locked := none }) rfl d4' _ hsteps
end Ends
section Bodies
variable {l : Launch}
theorem vx_ofW {y : MethodName} {ws ws' : List Cond} {rm : Room} {Pc : Array Value → State → Prop} {Qc : Array Value → State → Outcome → State → Prop} {XC : String → State → State → Prop} {mc ms : Nat} {free : Addr → Prop} {cc : ByteArray} {maxL : Nat} {ret : Option FieldType}
    (hy : plainName y.cls = true) (hw : ws = Cond.code y cc maxL ret :: ws')
    (body : ∀ p e s m args below meth c s₁, BodyLoose p l y (headSpec ws rm) cc maxL ret e s m args below meth c s₁ → c.maxLocals = maxL → (∀ x ∈ c.exceptionTable.toList, False) → Pc args s →
      W p l e (headSpec ws rm).room s m args below meth c s.heap [] 0 0 (vx_MQ below Qc XC args s mc ms free) (entryFrame m args maxL)) : vx_Met l y ws rm Pc Qc XC mc ms free := by
  refine MetFree.of_bodyS (code := cc) (maxLocals := maxL) (ret := ret) hy ?_ ?_
  · intro args s m h hn
    obtain ⟨meth, c, h1, h2, h3, h4, h5, h6, -, -⟩ := Cond.code_spec hn (atoms_spec (ws := ws) h _ (by rw [hw]; exact List.mem_cons_self))
    exact ⟨meth, c, h1, h2, h3, h4, h5, h6⟩
  · intro p e s m args below meth c s₁ B hml hP _
    have hh0 : s₁.heap = s.heap := by rw [B.state]; rfl
    have ht : ∀ x ∈ c.exceptionTable.toList, False := by
      obtain ⟨meth9, c9, h1, h2, -, -, -, -, h7, -⟩ := Cond.code_spec B.named (atoms_spec (ws := ws) B.pre _ (by rw [hw]; exact List.mem_cons_self))
      cases Option.some.inj (h1.symm.trans B.method)
      cases Option.some.inj (h2.symm.trans (Stand.of_body B).code)
      intro x hx
      rw [Array.isEmpty_iff.mp h7] at hx
      cases hx
    obtain ⟨t, a1, o, b1, b2, b3⟩ := body p e s m args below meth c s₁ B hml ht hP s₁ hh0 (Stand.of_body B)
    exact ⟨t, o, a1, b1, b2, b3⟩
/-- the table of a body with handlers -/
theorem vx_table {p : Program} {x y : MethodName} {S : Spec} {cc bytes : ByteArray} {maxL maxL' : Nat} {ret ret' : Option FieldType} {e : Env} {s s₁ : State} {m : MethodId} {args : Array Value} {below : List Frame} {meth : Method} {c : Code} {hh : List (Nat × Nat × Nat × Nat)}
    (B : BodyLoose p l y S cc maxL ret e s m args below meth c s₁) (h : (Cond.codeWith y bytes maxL' ret' hh).before args s = true) : c.exceptionTable.toList = tableOf hh := by
  obtain ⟨m9, meth9, c9, hn9, h1, h2, -, -, h6, -⟩ := Cond.codeWith_spec h
  cases Option.some.inj (hn9.symm.trans B.named)
  cases Option.some.inj (h1.symm.trans B.method)
  cases Option.some.inj (h2.symm.trans (Stand.of_body B).code)
  rw [← h6, table_eq]
end Bodies
end VXA
/-! ===== END ===== -/
/-! ===== BEGIN a static call of a method with an exception table ===== -/
section VXS
variable {p : Program} {l : Launch} {e : Env} {R : Room} {s : State} {m : MethodId} {args : Array Value} {below : List Frame} {meth : Method} {c : Code} {T : State} {H : Heap} {locs : List Loc} {cells slots : Nat}
abbrev vx_CSW (R : Room) (s : State) (args : Array Value) (own : String) (index : Nat) (y : MethodName) (bytes : ByteArray) (maxL : Nat) (ret : Option FieldType) (hh : List (Nat × Nat × Nat × Nat)) (ws : List Cond) (rm : Room) (mc ms n : Nat) : Prop :=
  (rm.cells = mc ∧ rm.slots = ms ∧ rm.frames + 1 ≤ R.frames ∧ 8 + (maxL + 11) + rm.locals ≤ R.locals ∧ (∀ w ∈ ws, ∀ (a' : Array Value) (U : State), s.WarmedH U.vm → w.before a' U = true) ∧ Cond.codeWith y bytes maxL ret hh ∈ ws) ∧
  (Cond.codeWith y bytes maxL ret hh).before args s = true ∧ (Cond.initialized y.cls).before args s = true ∧ (y.cls ≠ "java/lang/invoke/MethodHandle" ∧ y.cls ≠ "java/lang/invoke/VarHandle") ∧
  (∀ sig, parseMethodDescriptor y.desc = some sig → n = sig.parameters.length) ∧ (Cond.methodLink own index y).before args s = true ∧ (Cond.static y).before args s = true
theorem vx_cwSW {own : String} {index maxL mc ms : Nat} {y : MethodName} {bytes : ByteArray} {ret : Option FieldType} {hh : List (Nat × Nat × Nat × Nat)} {Ts ws ws' : List Cond} {rm : Room} (n : Nat) (ht : ∀ w ∈ Ts, w.before args s = true) (hT : GoodIn Ts (va_wsS own index y ws)) (hw : ws = Cond.codeWith y bytes maxL ret hh :: ws') (hrc : rm.cells = mc) (hrs : rm.slots = ms)
    (hd : y.cls ≠ "java/lang/invoke/MethodHandle" ∧ y.cls ≠ "java/lang/invoke/VarHandle" ∧ (parseMethodDescriptor y.desc).map (fun d => d.parameters.length) = some n) (hR : rm.frames + 1 ≤ R.frames ∧ 8 + (maxL + 11) + rm.locals ≤ R.locals) :
    vx_CSW R s args own index y bytes maxL ret hh ws rm mc ms n := by
  have ok : ∀ w ∈ va_wsS own index y ws, w.before args s = true := fun w h => ht w (hT w h).1
  have hG : GoodIn Ts ws := fun w h => hT w (by unfold va_wsS; exact List.mem_append_right _ h)
  have hc : Cond.codeWith y bytes maxL ret hh ∈ ws := by rw [hw]; exact List.mem_cons_self
  refine ⟨⟨hrc, hrs, hR.1, hR.2, pay_in ht hG, hc⟩, ht _ (hG _ hc).1, ok _ (by simp [va_wsS]), ⟨hd.1, hd.2.1⟩, fun sig h => ?_, ok _ (by simp [va_wsS]), ok _ (by simp [va_wsS])⟩
  have h2 := hd.2.2
  rw [h] at h2
  exact (Option.some.inj h2).symm
theorem vx_callSW (X : Stand p l e R s m args below meth c T locs cells slots) (hexec : p.tables.exec = Jvm.exec) {own : String} {index : Nat} {y : MethodName} {bytes : ByteArray} {maxL : Nat} {ret : Option FieldType} {hh : List (Nat × Nat × Nat × Nat)}
    (hown : s.vm.findClass own = some m.cls) (hlink : (Cond.methodLink own index y).before args s = true) (hstat : (Cond.static y).before args s = true) (hinit : (Cond.initialized y.cls).before args s = true)
    (hcode : (Cond.codeWith y bytes maxL ret hh).before args s = true) (hy : y.cls ≠ "java/lang/invoke/MethodHandle" ∧ y.cls ≠ "java/lang/invoke/VarHandle")
    {W9 : Nat} {Pre : Pt → Array Value → Prop} {Post : Pt → Array Value → Option Value → Pt → Prop} (hK : Back l R p e below s args y 3 W9 Pre Post)
    {g : JFrame} (hg : g.method = m) (hsize : g.locals.size = c.maxLocals) {argsL rest : List Value} (hlen : ∀ sig, parseMethodDescriptor y.desc = some sig → argsL.length = sig.parameters.length)
    (hstack : g.stack = argsL.reverse ++ rest) (hW : 2 * g.monitorRoom + (rest.map fun v => v.category).sum ≤ W9) (hdg : decode c.code g.pc = .ok (.invokestatic index, 3))
    (hpre : ∀ vm₁, s.WarmedH vm₁ → Pre ⟨T.setVm vm₁, locs, cells, slots⟩ argsL.toArray) :
    ∃ (v : Option Value) (vm₁ : Vm) (B : Pt), s.WarmedH vm₁ ∧ Stand p l e R s m args below meth c B.U B.locs B.cells B.slots ∧ Post ⟨T.setVm vm₁, locs, cells, slots⟩ argsL.toArray v B ∧
      ∀ target, Steps p.tables e below (B.U.setTop { g with pc := g.pc + 3, stack := v.toList ++ rest }) target → Steps p.tables e below (T.setTop g) target := by
  obtain ⟨mk, methM, cM, hnamed, hmethM, -, -, -, -, -, -, hsigM⟩ := Cond.codeWith_spec hcode
  have hstatic : methM.isStatic = true := Cond.static_spec hnamed hmethM hstat
  obtain ⟨kP, hkP, -⟩ := className_of_methodNamed hnamed
  have hinitP : kP.init = .initialized := Cond.initialized_spec (findClass_of_methodNamed hnamed) hkP hinit
  obtain ⟨vm₁, X₁, hstep₁⟩ := X.invokestatic hexec hown hlink hnamed hmethM hstatic hkP hinitP hy (g := g) hg (argsL := argsL) (rest := rest) (hlen _ hsigM) hstack hdg
  obtain ⟨v, B, X', hpost, hsteps⟩ := hK m meth c ⟨T.setVm vm₁, locs, cells, slots⟩ { g with stack := rest } (.invokestatic index) mk argsL.toArray X₁ hg hsize hdg hW (X₁.named hnamed) (hpre vm₁ X₁.warmed)
  exact ⟨v, vm₁, B, X₁.warmed, X', hpost, fun target h => hstep₁ _ fun acts => by rw [doInvoke_state]; exact hsteps.trans h⟩
theorem vx_runSW {y : MethodName} {bytes cc : ByteArray} {maxL nL mc ms n index : Nat} {ret : Option FieldType} {hh : List (Nat × Nat × Nat × Nat)} {ws : List Cond} {rm : Room} {Pc : Array Value → State → Prop} {Qc : Array Value → State → Outcome → State → Prop} {free : Addr → Prop} {Ts : List Cond} {own : String} {As rest : List Value} {g : JFrame}
    (S : CallFix p m c cc nL s args Ts own) (hM : Met l y ws rm Pc Qc mc ms free) (cw : vx_CSW R s args own index y bytes maxL ret hh ws rm mc ms n) (hp : PreS s H Pc As)
    (hg : g.method = m) (hn : As.length = n) (hsize : g.locals.size = nL) (hstack : g.stack = As.reverse ++ rest) (hW : 2 * g.monitorRoom + (rest.map fun v => v.category).sum ≤ 8) (hdg : decode cc g.pc = .ok (.invokestatic index, 3)) (hf : cells + mc ≤ R.cells ∧ slots + ms ≤ R.slots) :
    va_Run p l e R s m args below meth c H locs cells slots mc ms g rest (Qc As.toArray) (free) := by
  obtain ⟨⟨hrc, hrs, hfr, hlo, hws, hcw⟩, hcode, hini, hy, hlen, hl, hstt⟩ := cw
  have hK : Back l R p e below s args y 3 8 (PreOf R mc ms Pc) (PostOf Qc mc ms free) := va_backW (hh := hh) (bytes := bytes) (maxL := maxL) (ret := ret) hM hp.1 hrc hrs hfr hlo hws hcw (fun a' U hW => word_at hW (Or.inl (by first | rfl | simp [Cond.onTables, Cond.keeps, Cond.steady])) hini)
  obtain ⟨hx, hb, hml, ho, -⟩ := S
  intro T hT X
  obtain ⟨v, vm₁, ⟨U', l2, c2, s2⟩, hW₁, X', ⟨g', mk, t, L, e1, e2, hq, h1, hL, h2, h3⟩, st⟩ := vx_callSW X hx (hh := hh) (bytes := bytes) (maxL := maxL) (ret := ret) ho hl hstt hini hcode hy hK hg (hsize.trans hml.symm) (argsL := As) (rest := rest) (fun sig h => hn.trans (hlen sig h)) hstack hW (by rw [hb]; exact hdg)
    (fun vm₁ hW₁ => ⟨hf.1, hf.2, hp.2 (T.setVm vm₁) hT hW₁⟩)
  dsimp only [Pt.U, Pt.locs, Pt.cells, Pt.slots] at X' e1 e2 h1 h2 h3 st
  subst h1; subst h2; subst h3
  exact ⟨v, (T.setVm vm₁).calling g' mk As.toArray, t, U', L, hT, X', hL, e1, e2, hq, st⟩
/-- not caught here, past rows that name other classes: it goes on to the caller -/
theorem vx_outP {p : Program} {l : Launch} {e : Env} {R : Room} {s : State} {m : MethodId} {args : Array Value} {below : List Frame} {meth : Method} {c : Code} {H : Heap} {locs : List Loc} {cells slots : Nat} {free : Addr → Prop} {ls : Array Slot} {rest : List Value} {Qc : Array Value → State → Outcome → State → Prop} {XC : String → State → State → Prop}
    {pc : Nat} {own E : String} {ce : Cell} {q : Addr} {mc ms : Nat} (hown : s.vm.findClass own = some m.cls) (hlocks : meth.locks = false)
    (hpass : ∀ z ∈ c.exceptionTable.toList, covers z pc = false ∨ (z.catchType ≠ 0 ∧ ∃ nm : String, (Cond.classLink own z.catchType nm).before args s = true ∧ va_Nc E nm s)) (hcell : H[q]? = some ce) (hv : ce.vm = .none) (hcl : s.vm.findClass E = some ce.cls)
    (hx : ∀ t : State, t.heap = H → s.vm.Alike t.vm → XC E s t) (hf : ∀ z ∈ locs, free z.base) (hc : cells ≤ mc) (hs : slots ≤ ms) :
    vx_W p l e R s m args below meth c H locs cells slots (vx_MQ below Qc XC args s mc ms free) (F0 m pc ls rest) q := by
  intro T hT X
  have hpl : e.platform.magicAccessors = ({} : Platform).magicAccessors := by rw [X.admits.platform]
  obtain ⟨vm', hW', X', st⟩ := X.outThrough hlocks q (g := F0 m pc ls rest) rfl rfl rfl (cell := ce) (by rw [hT]; exact hcell) (by rw [hv]; rfl)
    (by obtain ⟨k9, h9, -⟩ := Vm.findClass_spec hcl; exact ⟨k9, h9⟩) (fun z hz => by
      rcases hpass z hz with h | ⟨hz0, nm, hl1, hn1⟩
      · exact Or.inl h
      · obtain ⟨c6, hc6, hcl6⟩ := Cond.classLink_spec hown hl1 e.platform hpl
        obtain ⟨a8, b8, h1, h2, h3⟩ := hn1
        cases Option.some.inj (h1.symm.trans hcl)
        cases Option.some.inj (h2.symm.trans hc6)
        exact Or.inr ⟨hz0, _, hcl6, h3⟩)
  obtain ⟨g₀, hfr⟩ := X'.frames_eq
  have hcell9 : ((T.setVm vm').setFrames (.throwing q :: below)).heap[q]? = some ce := by
    show T.heap[q]? = some ce
    rw [hT]; exact hcell
  have hend : Ended ((T.setVm vm').setFrames (.throwing q :: below)) below (.threw q) := State.frames_setFrames _ (State.cur_lt_of_frames hfr)
  refine ⟨(T.setVm vm').setFrames (.throwing q :: below), ?_, .threw q, X'.here.running, hend, Or.inr ⟨q, rfl, E, ce, locs, hx _ hT (X'.ends _).1.alike, hcell9, hv, hcl, (X'.ends _).1, (X'.ends _).2.mono hc hs, hf⟩⟩
  rw [X.pushThrowing_eq]
  exact st
/-- a thing of a world lies in the heap -/
theorem vx_lt {D : va_G} {cl : List vw_C} {ws : va_W} {H1 : Heap} (h : va_P D cl ws H1) {k : Nat} {q : Nat × va_E} (hk : ws[k]? = some q) : q.1 < H1.size := (h k q hk).lt
end VXS
/-! ===== END ===== -/
/-! ===== BEGIN methods with a table of their own: called by a name, returning or throwing ===== -/
section VXH
/-! vx_backW, vx_callVX, vx_callSX, vx_callVW, vx_runVW, vx_runVX, vx_runSX, vx_ofWH follow the same proofs as their sisters above (Free/Laws.lean, Shelf42/LK1.lean); vx_outP calls Shelf42/NT130.lean (outThrough). -/
section
variable {l : Launch} {R : Room} {p : Program} {e : Env} {below : List Frame} {s : State} {sargs : Array Value} {y : MethodName} {len W9 : Nat}
theorem vx_backW {ws : List Cond} {rm : Room} {Pc : Array Value → State → Prop} {Qc : Array Value → State → Outcome → State → Prop} {XC : String → State → State → Prop} {mc ms : Nat} {free : Addr → Prop} {bytes : ByteArray} {maxL : Nat} {ret : Option FieldType} {hh : List (Nat × Nat × Nat × Nat)}
    (hM : vx_Met l y ws rm Pc Qc XC mc ms free) (hblind : FrameBlind Pc) (hrc : rm.cells = mc) (hrs : rm.slots = ms)
    (hframes : rm.frames + 1 ≤ R.frames) (hlocals : W9 + (maxL + 11) + rm.locals ≤ R.locals)
    (hws : ∀ w ∈ ws, ∀ a' U, s.WarmedH U.vm → w.before a' U = true) (hcode : Cond.codeWith y bytes maxL ret hh ∈ ws) (hinit : ∀ a' U, s.WarmedH U.vm → (Cond.initialized y.cls).before a' U = true) :
    vx_Back l R p e below s sargs y len W9 (PreOf R mc ms Pc) (PostOf Qc mc ms free) (vx_Post XC mc ms free) := by
  intro m meth c A g ig mk a X hg hsize hdg hW hn hp
  have h1 : (headSpec ws rm).pre.before a A.U = true := atoms_intro fun w hw => hws w hw _ _ X.warmed
  have h2 : (Cond.codeWith y bytes maxL ret hh).before a A.U = true := hws _ hcode _ _ X.warmed
  have h3 : (Cond.initialized y.cls).before a A.U = true := hinit _ _ X.warmed
  have h4 : A.cells + (headSpec ws rm).room.cells ≤ R.cells := by rw [show (headSpec ws rm).room.cells = mc from hrc]; exact hp.1
  have h5 : A.slots + (headSpec ws rm).room.slots ≤ R.slots := by rw [show (headSpec ws rm).room.slots = ms from hrs]; exact hp.2.1
  have hPc : Pc a (A.U.calling g mk a) := hblind _ _ _ _ hp.2.2
  obtain ⟨U, Ls, c0, s0⟩ := A
  dsimp only [Pt.U, Pt.locs, Pt.cells, Pt.slots] at h1 h2 h3 h4 h5 X hn hPc ⊢
  obtain ⟨m9, methY, cY, hn9, hmY, hcY, -, hlY, -⟩ := Cond.codeWith_spec h2
  cases Option.some.inj (hn9.symm.trans hn)
  obtain ⟨kY, hkY, -⟩ := className_of_methodNamed hn
  have hinitY : kY.init = .initialized := Cond.initialized_spec (findClass_of_methodNamed hn) hkY h3
  have h : At U g.method c below := by rw [hg]; exact X.here
  have hlocals9 : W9 + (maxL + 11) + (headSpec ws rm).room.locals ≤ R.locals := hlocals
  have happ : (headSpec ws rm).appliesLoose y e.platform (U.calling g mk a) = true :=
    Spec.appliesLoose_calling (g := g) h hdg hn hkY hinitY
      (X.room_calling (g := g) (R' := (headSpec ws rm).room) hsize hmY hcY hframes (by rw [hlY]; omega) h4 h5) h1
  obtain ⟨mid, hmid⟩ := h.above
  have hfr : (U.setTop g).frames = (.java g :: mid) ++ below := by rw [State.frames_setTop' g h.top, hmid]; rfl
  obtain ⟨o, s₂, hsteps, -, hend, hq⟩ := Steps.callFree hM p X.admits X.cas X.clock (acts := []) hfr happ hPc trivial
  have hq' : vx_Q Qc XC mc ms free a (U.calling g mk a) o s₂ := hq
  rw [State.frames_setTop' g h.top] at hend
  obtain ⟨g₀, hg0⟩ := Option.isSome_iff_exists.mp h.top
  obtain ⟨r, hr⟩ := State.topJava?_eq_some.mp hg0
  have hr' : (({ U with heap := s₂.heap, slotsUsed := s₂.slotsUsed } : State).setVm s₂.vm).frames = .java g₀ :: r := hr
  rcases hq' with ⟨hqc, L, hfe, hL⟩ | ⟨q, rfl, E, ce, L, hx, hce, hcv, hcl, hW₂, hsm, hL⟩
  · obtain ⟨⟨v, rfl⟩, hW₂, e2, q2, q3, q4, q5, q6⟩ := id hfe
    have e3 : s₂ = ({ (U.calling g mk a).setFrames s₂.frames with heap := s₂.heap, slotsUsed := s₂.slotsUsed } : State).setVm s₂.vm := by
      have : s₂ = ({ s₂ with vm := (U.calling g mk a).vm } : State).setVm s₂.vm := rfl
      rw [e2] at this
      exact this
    obtain ⟨c₂, i₂, len₂, hc₂, hd₂, hf₂⟩ := hend
    have hW' : U.WarmedH s₂.vm := hW₂
    have hcc : c₂ = c := by
      have h1 : s₂.code? g.method = U.code? g.method := by
        rw [State.code?_eq, State.code?_eq, hW'.alike.method?]
      exact Option.some.inj (hc₂.symm.trans (h1.trans h.code))
    subst hcc
    have hlen : len₂ = len := by rw [hdg] at hd₂; cases hd₂; rfl
    subst hlen
    have hs₂ : s₂ = (({ U with heap := s₂.heap, slotsUsed := s₂.slotsUsed } : State).setVm s₂.vm).setTop { g with pc := g.pc + len₂, stack := v.toList ++ g.stack } := by
      refine e3.trans ?_
      rw [hf₂, State.calling_eq h.top, State.setFrames_setFrames, State.setTop_of_frames _ hr', hr]
      rfl
    have hsame : U.sameButNew ({ U with heap := s₂.heap, slotsUsed := s₂.slotsUsed } : State) L mc ms := by
      refine ⟨?_, q2, q3, q4, q5, q6⟩
      obtain ⟨t, ht, -⟩ := State.frames_cons hr
      show ({ U with heap := s₂.heap, slotsUsed := s₂.slotsUsed } : State) = { U.setFrames U.frames with heap := s₂.heap, slotsUsed := s₂.slotsUsed }
      rw [State.setFrames_self ht]
    subst hg
    refine Or.inl ⟨v, ⟨(({ U with heap := s₂.heap, slotsUsed := s₂.slotsUsed } : State).setVm s₂.vm), Ls ++ L, c0 + mc, s0 + ms⟩,
      ⟨X.admits, X.cas, X.clock, X.frames, X.room, X.hears, X.method, X.code, (X.here.setHeapUsed s₂.heap s₂.slotsUsed).setVm hW'.alike, X.tail, State.WarmedH.trans X.warmed hW', X.limits, X.bytes, X.same.trans (hsame.setVm s.vm)⟩,
      ⟨g, mk, s₂, L, rfl, rfl, hqc, rfl, hL, rfl, rfl⟩, ?_⟩
    show Steps p.tables e below _ ((({ U with heap := s₂.heap, slotsUsed := s₂.slotsUsed } : State).setVm s₂.vm).setTop { g with pc := g.pc + len₂, stack := v.toList ++ g.stack })
    rw [← hs₂]
    exact hsteps
  · obtain ⟨e2, q2, q3, q4, q5, q6⟩ := id hsm
    have e3 : s₂ = ({ (U.calling g mk a).setFrames s₂.frames with heap := s₂.heap, slotsUsed := s₂.slotsUsed } : State).setVm s₂.vm := by
      have : s₂ = ({ s₂ with vm := (U.calling g mk a).vm } : State).setVm s₂.vm := rfl
      rw [e2] at this
      exact this
    have hf₂ : s₂.frames = .throwing q :: .java g :: U.frames.tail := hend
    have hW' : U.WarmedH s₂.vm := hW₂
    have hs₂ : s₂ = ((({ U with heap := s₂.heap, slotsUsed := s₂.slotsUsed } : State).setVm s₂.vm).setTop g).pushFrame (.throwing q) := by
      refine e3.trans ?_
      rw [hf₂, State.calling_eq h.top, State.setFrames_setFrames, State.pushFrame, State.frames_setTop _ hr', State.setTop_of_frames _ hr', State.setFrames_setFrames, hr]
      rfl
    have hsame : U.sameButNew ({ U with heap := s₂.heap, slotsUsed := s₂.slotsUsed } : State) L mc ms := by
      refine ⟨?_, q2, q3, q4, q5, q6⟩
      obtain ⟨t, ht, -⟩ := State.frames_cons hr
      show ({ U with heap := s₂.heap, slotsUsed := s₂.slotsUsed } : State) = { U.setFrames U.frames with heap := s₂.heap, slotsUsed := s₂.slotsUsed }
      rw [State.setFrames_self ht]
    subst hg
    refine Or.inr ⟨q, ⟨(({ U with heap := s₂.heap, slotsUsed := s₂.slotsUsed } : State).setVm s₂.vm), Ls ++ L, c0 + mc, s0 + ms⟩,
      ⟨X.admits, X.cas, X.clock, X.frames, X.room, X.hears, X.method, X.code, (X.here.setHeapUsed s₂.heap s₂.slotsUsed).setVm hW'.alike, X.tail, State.WarmedH.trans X.warmed hW', X.limits, X.bytes, X.same.trans (hsame.setVm s.vm)⟩,
      ⟨g, mk, s₂, L, E, ce, rfl, rfl, hx, hce, hcv, hcl, rfl, hL, rfl, rfl⟩, ?_⟩
    show Steps p.tables e below _ (((({ U with heap := s₂.heap, slotsUsed := s₂.slotsUsed } : State).setVm s₂.vm).setTop g).pushFrame (.throwing q))
    rw [← hs₂]
    exact hsteps
end
variable {p : Program} {l : Launch} {e : Env} {R : Room} {s : State} {m : MethodId} {args : Array Value} {below : List Frame} {meth : Method} {c : Code} {T : State} {H : Heap} {locs : List Loc} {cells slots : Nat}
theorem vx_callVX (X : Stand p l e R s m args below meth c T locs cells slots) (hexec : p.tables.exec = Jvm.exec) {own C : String} {index : Nat} {y : MethodName} {bytes : ByteArray} {maxL : Nat} {ret : Option FieldType} {hh : List (Nat × Nat × Nat × Nat)}
    (hown : s.vm.findClass own = some m.cls) (hlink : (Cond.methodLink own index y).before args s = true) (hinst : (Cond.instanceMethod y).before args s = true) (hsel : (Cond.selects C y y).before args s = true)
    (hcode : (Cond.codeWith y bytes maxL ret hh).before args s = true) (hy : y.cls ≠ "java/lang/invoke/MethodHandle" ∧ y.cls ≠ "java/lang/invoke/VarHandle")
    {W9 : Nat} {Pre : Pt → Array Value → Prop} {Post : Pt → Array Value → Option Value → Pt → Prop} {PostX : Pt → Array Value → Addr → Pt → Prop} (hK : vx_Back l R p e below s args y 3 W9 Pre Post PostX)
    {b : Addr} {cellB : Cell} (hcell : T.heap[b]? = some cellB) (hobj : cellB.vm.isStatics = false) (hcls : s.vm.findClass C = some cellB.cls)
    {g : JFrame} (hg : g.method = m) (hsize : g.locals.size = c.maxLocals) {argsL rest : List Value} (hlen : ∀ sig, parseMethodDescriptor y.desc = some sig → argsL.length = sig.parameters.length)
    (hstack : g.stack = argsL.reverse ++ .ref b :: rest) (hW : 2 * g.monitorRoom + (rest.map fun v => v.category).sum ≤ W9) (hdg : decode c.code g.pc = .ok (.invokevirtual index, 3))
    (hpre : ∀ vm₁, s.WarmedH vm₁ → Pre ⟨T.setVm vm₁, locs, cells, slots⟩ (Value.ref b :: argsL).toArray) :
    (∃ (v : Option Value) (vm₁ : Vm) (B : Pt), s.WarmedH vm₁ ∧ Stand p l e R s m args below meth c B.U B.locs B.cells B.slots ∧ Post ⟨T.setVm vm₁, locs, cells, slots⟩ (Value.ref b :: argsL).toArray v B ∧
      ∀ target, Steps p.tables e below (B.U.setTop { g with pc := g.pc + 3, stack := v.toList ++ rest }) target → Steps p.tables e below (T.setTop g) target) ∨
    (∃ (q : Addr) (vm₁ : Vm) (B : Pt), s.WarmedH vm₁ ∧ Stand p l e R s m args below meth c B.U B.locs B.cells B.slots ∧ PostX ⟨T.setVm vm₁, locs, cells, slots⟩ (Value.ref b :: argsL).toArray q B ∧
      Steps p.tables e below (T.setTop g) ((B.U.setTop { g with stack := rest }).pushFrame (.throwing q))) := by
  obtain ⟨mk, methM, hnamed, hmethM, hstM, habM⟩ := Cond.instanceMethod_spec hinst
  obtain ⟨m8, methM', cM, hn8, hmethM', -, -, -, -, -, -, hsigM⟩ := Cond.codeWith_spec hcode
  cases Option.some.inj (hn8.symm.trans hnamed)
  cases hmethM.symm.trans hmethM'
  obtain ⟨c2, r2, m2, q1, q2, q3, q4, kP, hkP, hkPi⟩ := Cond.selects_spec hsel
  cases hcls.symm.trans q1
  cases (State.methodFound?_of_named hnamed hy).symm.trans q2
  cases hnamed.symm.trans q3
  have hselP : selectMethod e.platform s.vm cellB.cls mk = .method mk := by rw [Launch.admits_selectMethod X.admits]; exact q4
  obtain ⟨vm₁, X₁, hstep₁⟩ := X.invokevirtual hexec hown hlink hnamed hmethM hstM hkP hkPi hy (a := b) (cell := cellB) hcell
    (fun z h => by rw [h] at hobj; cases hobj) hselP hmethM habM hkP hkPi (g := g) hg (argsL := argsL) (rest := rest) (hlen _ hsigM) hstack hdg
  rcases hK m meth c ⟨T.setVm vm₁, locs, cells, slots⟩ { g with stack := rest } (.invokevirtual index) mk (Value.ref b :: argsL).toArray X₁ hg hsize hdg hW (X₁.named hnamed) (hpre vm₁ X₁.warmed) with ⟨v, B, X', hpost, hsteps⟩ | ⟨q, B, X', hpost, hsteps⟩
  · exact Or.inl ⟨v, vm₁, B, X₁.warmed, X', hpost, fun target h => hstep₁ _ fun acts => by rw [doInvoke_state]; exact hsteps.trans h⟩
  · exact Or.inr ⟨q, vm₁, B, X₁.warmed, X', hpost, hstep₁ _ fun acts => by rw [doInvoke_state]; exact hsteps⟩
theorem vx_callSX (X : Stand p l e R s m args below meth c T locs cells slots) (hexec : p.tables.exec = Jvm.exec) {own : String} {index : Nat} {y : MethodName} {bytes : ByteArray} {maxL : Nat} {ret : Option FieldType} {hh : List (Nat × Nat × Nat × Nat)}
    (hown : s.vm.findClass own = some m.cls) (hlink : (Cond.methodLink own index y).before args s = true) (hstat : (Cond.static y).before args s = true) (hinit : (Cond.initialized y.cls).before args s = true)
    (hcode : (Cond.codeWith y bytes maxL ret hh).before args s = true) (hy : y.cls ≠ "java/lang/invoke/MethodHandle" ∧ y.cls ≠ "java/lang/invoke/VarHandle")
    {W9 : Nat} {Pre : Pt → Array Value → Prop} {Post : Pt → Array Value → Option Value → Pt → Prop} {PostX : Pt → Array Value → Addr → Pt → Prop} (hK : vx_Back l R p e below s args y 3 W9 Pre Post PostX)
    {g : JFrame} (hg : g.method = m) (hsize : g.locals.size = c.maxLocals) {argsL rest : List Value} (hlen : ∀ sig, parseMethodDescriptor y.desc = some sig → argsL.length = sig.parameters.length)
    (hstack : g.stack = argsL.reverse ++ rest) (hW : 2 * g.monitorRoom + (rest.map fun v => v.category).sum ≤ W9) (hdg : decode c.code g.pc = .ok (.invokestatic index, 3))
    (hpre : ∀ vm₁, s.WarmedH vm₁ → Pre ⟨T.setVm vm₁, locs, cells, slots⟩ argsL.toArray) :
    (∃ (v : Option Value) (vm₁ : Vm) (B : Pt), s.WarmedH vm₁ ∧ Stand p l e R s m args below meth c B.U B.locs B.cells B.slots ∧ Post ⟨T.setVm vm₁, locs, cells, slots⟩ argsL.toArray v B ∧
      ∀ target, Steps p.tables e below (B.U.setTop { g with pc := g.pc + 3, stack := v.toList ++ rest }) target → Steps p.tables e below (T.setTop g) target) ∨
    (∃ (q : Addr) (vm₁ : Vm) (B : Pt), s.WarmedH vm₁ ∧ Stand p l e R s m args below meth c B.U B.locs B.cells B.slots ∧ PostX ⟨T.setVm vm₁, locs, cells, slots⟩ argsL.toArray q B ∧
      Steps p.tables e below (T.setTop g) ((B.U.setTop { g with stack := rest }).pushFrame (.throwing q))) := by
  obtain ⟨mk, methM, cM, hnamed, hmethM, -, -, -, -, -, -, hsigM⟩ := Cond.codeWith_spec hcode
  have hstatic : methM.isStatic = true := Cond.static_spec hnamed hmethM hstat
  obtain ⟨kP, hkP, -⟩ := className_of_methodNamed hnamed
  have hinitP : kP.init = .initialized := Cond.initialized_spec (findClass_of_methodNamed hnamed) hkP hinit
  obtain ⟨vm₁, X₁, hstep₁⟩ := X.invokestatic hexec hown hlink hnamed hmethM hstatic hkP hinitP hy (g := g) hg (argsL := argsL) (rest := rest) (hlen _ hsigM) hstack hdg
  rcases hK m meth c ⟨T.setVm vm₁, locs, cells, slots⟩ { g with stack := rest } (.invokestatic index) mk argsL.toArray X₁ hg hsize hdg hW (X₁.named hnamed) (hpre vm₁ X₁.warmed) with ⟨v, B, X', hpost, hsteps⟩ | ⟨q, B, X', hpost, hsteps⟩
  · exact Or.inl ⟨v, vm₁, B, X₁.warmed, X', hpost, fun target h => hstep₁ _ fun acts => by rw [doInvoke_state]; exact hsteps.trans h⟩
  · exact Or.inr ⟨q, vm₁, B, X₁.warmed, X', hpost, hstep₁ _ fun acts => by rw [doInvoke_state]; exact hsteps⟩
theorem vx_callVW (X : Stand p l e R s m args below meth c T locs cells slots) (hexec : p.tables.exec = Jvm.exec) {own C : String} {index : Nat} {y : MethodName} {bytes : ByteArray} {maxL : Nat} {ret : Option FieldType} {hh : List (Nat × Nat × Nat × Nat)}
    (hown : s.vm.findClass own = some m.cls) (hlink : (Cond.methodLink own index y).before args s = true) (hinst : (Cond.instanceMethod y).before args s = true) (hsel : (Cond.selects C y y).before args s = true)
    (hcode : (Cond.codeWith y bytes maxL ret hh).before args s = true) (hy : y.cls ≠ "java/lang/invoke/MethodHandle" ∧ y.cls ≠ "java/lang/invoke/VarHandle")
    {W9 : Nat} {Pre : Pt → Array Value → Prop} {Post : Pt → Array Value → Option Value → Pt → Prop} (hK : Back l R p e below s args y 3 W9 Pre Post)
    {b : Addr} {cellB : Cell} (hcell : T.heap[b]? = some cellB) (hobj : cellB.vm.isStatics = false) (hcls : s.vm.findClass C = some cellB.cls)
    {g : JFrame} (hg : g.method = m) (hsize : g.locals.size = c.maxLocals) {argsL rest : List Value} (hlen : ∀ sig, parseMethodDescriptor y.desc = some sig → argsL.length = sig.parameters.length)
    (hstack : g.stack = argsL.reverse ++ .ref b :: rest) (hW : 2 * g.monitorRoom + (rest.map fun v => v.category).sum ≤ W9) (hdg : decode c.code g.pc = .ok (.invokevirtual index, 3))
    (hpre : ∀ vm₁, s.WarmedH vm₁ → Pre ⟨T.setVm vm₁, locs, cells, slots⟩ (Value.ref b :: argsL).toArray) :
    ∃ (v : Option Value) (vm₁ : Vm) (B : Pt), s.WarmedH vm₁ ∧ Stand p l e R s m args below meth c B.U B.locs B.cells B.slots ∧ Post ⟨T.setVm vm₁, locs, cells, slots⟩ (Value.ref b :: argsL).toArray v B ∧
      ∀ target, Steps p.tables e below (B.U.setTop { g with pc := g.pc + 3, stack := v.toList ++ rest }) target → Steps p.tables e below (T.setTop g) target := by
  obtain ⟨mk, methM, hnamed, hmethM, hstM, habM⟩ := Cond.instanceMethod_spec hinst
  obtain ⟨m8, methM', cM, hn8, hmethM', -, -, -, -, -, -, hsigM⟩ := Cond.codeWith_spec hcode
  cases Option.some.inj (hn8.symm.trans hnamed)
  cases hmethM.symm.trans hmethM'
  obtain ⟨c2, r2, m2, q1, q2, q3, q4, kP, hkP, hkPi⟩ := Cond.selects_spec hsel
  cases hcls.symm.trans q1
  cases (State.methodFound?_of_named hnamed hy).symm.trans q2
  cases hnamed.symm.trans q3
  have hselP : selectMethod e.platform s.vm cellB.cls mk = .method mk := by rw [Launch.admits_selectMethod X.admits]; exact q4
  obtain ⟨vm₁, X₁, hstep₁⟩ := X.invokevirtual hexec hown hlink hnamed hmethM hstM hkP hkPi hy (a := b) (cell := cellB) hcell
    (fun z h => by rw [h] at hobj; cases hobj) hselP hmethM habM hkP hkPi (g := g) hg (argsL := argsL) (rest := rest) (hlen _ hsigM) hstack hdg
  obtain ⟨v, B, X', hpost, hsteps⟩ := hK m meth c ⟨T.setVm vm₁, locs, cells, slots⟩ { g with stack := rest } (.invokevirtual index) mk (Value.ref b :: argsL).toArray X₁ hg hsize hdg hW (X₁.named hnamed) (hpre vm₁ X₁.warmed)
  exact ⟨v, vm₁, B, X₁.warmed, X', hpost, fun target h => hstep₁ _ fun acts => by rw [doInvoke_state]; exact hsteps.trans h⟩
abbrev vx_CVW (R : Room) (s : State) (args : Array Value) (own C : String) (index : Nat) (y : MethodName) (bytes : ByteArray) (maxL : Nat) (ret : Option FieldType) (hh : List (Nat × Nat × Nat × Nat)) (ws : List Cond) (rm : Room) (mc ms n : Nat) : Prop :=
  (rm.cells = mc ∧ rm.slots = ms ∧ rm.frames + 1 ≤ R.frames ∧ 8 + (maxL + 11) + rm.locals ≤ R.locals ∧ (∀ w ∈ ws, ∀ (a' : Array Value) (U : State), s.WarmedH U.vm → w.before a' U = true) ∧ Cond.codeWith y bytes maxL ret hh ∈ ws) ∧
  (Cond.codeWith y bytes maxL ret hh).before args s = true ∧ (Cond.initialized y.cls).before args s = true ∧ (y.cls ≠ "java/lang/invoke/MethodHandle" ∧ y.cls ≠ "java/lang/invoke/VarHandle") ∧
  (∀ sig, parseMethodDescriptor y.desc = some sig → n = sig.parameters.length) ∧ (Cond.methodLink own index y).before args s = true ∧ (Cond.instanceMethod y).before args s = true ∧ (Cond.selects C y y).before args s = true
theorem vx_cwVW {own C : String} {index maxL mc ms : Nat} {y : MethodName} {bytes : ByteArray} {ret : Option FieldType} {hh : List (Nat × Nat × Nat × Nat)} {Ts ws ws' : List Cond} {rm : Room} (n : Nat) (ht : ∀ w ∈ Ts, w.before args s = true) (hT : GoodIn Ts (wsV own index C y ws)) (hw : ws = Cond.codeWith y bytes maxL ret hh :: ws') (hrc : rm.cells = mc) (hrs : rm.slots = ms)
    (hd : y.cls = C ∧ y.cls ≠ "java/lang/invoke/MethodHandle" ∧ y.cls ≠ "java/lang/invoke/VarHandle" ∧ (parseMethodDescriptor y.desc).map (fun d => d.parameters.length) = some n) (hR : rm.frames + 1 ≤ R.frames ∧ 8 + (maxL + 11) + rm.locals ≤ R.locals) :
    vx_CVW R s args own C index y bytes maxL ret hh ws rm mc ms n := by
  obtain ⟨hC, hd⟩ := hd
  subst hC
  have ok : ∀ w ∈ wsV own index y.cls y ws, w.before args s = true := fun w h => ht w (hT w h).1
  have hG : GoodIn Ts ws := fun w h => hT w (by unfold wsV; exact List.mem_append_right _ h)
  have hc : Cond.codeWith y bytes maxL ret hh ∈ ws := by rw [hw]; exact List.mem_cons_self
  refine ⟨⟨hrc, hrs, hR.1, hR.2, pay_in ht hG, hc⟩, ht _ (hG _ hc).1, ok _ (by simp [wsV]), ⟨hd.1, hd.2.1⟩, fun sig h => ?_, ok _ (by simp [wsV]), ok _ (by simp [wsV]), ok _ (by simp [wsV])⟩
  have h2 := hd.2.2
  rw [h] at h2
  exact (Option.some.inj h2).symm
theorem vx_runVW {y : MethodName} {bytes cc : ByteArray} {maxL nL mc ms n index : Nat} {ret : Option FieldType} {hh : List (Nat × Nat × Nat × Nat)} {ws : List Cond} {rm : Room} {Pc : Array Value → State → Prop} {Qc : Array Value → State → Outcome → State → Prop} {free : Addr → Prop} {Ts : List Cond} {own C : String} {b : Addr} {As rest : List Value} {g : JFrame}
    (S : CallFix p m c cc nL s args Ts own) (hM : Met l y ws rm Pc Qc mc ms free) (cw : vx_CVW R s args own C index y bytes maxL ret hh ws rm mc ms n) (hp : PreV s H C b Pc As)
    (hg : g.method = m) (hn : As.length = n) (hsize : g.locals.size = nL) (hstack : g.stack = As.reverse ++ .ref b :: rest) (hW : 2 * g.monitorRoom + (rest.map fun v => v.category).sum ≤ 8) (hdg : decode cc g.pc = .ok (.invokevirtual index, 3)) (hf : cells + mc ≤ R.cells ∧ slots + ms ≤ R.slots) :
    va_Run p l e R s m args below meth c H locs cells slots mc ms g rest (Qc (Value.ref b :: As).toArray) free := by
  obtain ⟨⟨hrc, hrs, hfr, hlo, hws, hcw⟩, hcode, hini, hy, hlen, hl, hin, hse⟩ := cw
  have hK : Back l R p e below s args y 3 8 (PreOf R mc ms Pc) (PostOf Qc mc ms free) := va_backW (hh := hh) (bytes := bytes) (maxL := maxL) (ret := ret) hM hp.1 hrc hrs hfr hlo hws hcw (fun a' U hW => word_at hW (Or.inl (by first | rfl | simp [Cond.onTables, Cond.keeps, Cond.steady])) hini)
  obtain ⟨hx, hb, hml, ho, -⟩ := S
  obtain ⟨-, ⟨cellB, hcB, hoB, hclB⟩, hPc⟩ := hp
  intro T hT X
  obtain ⟨v, vm₁, ⟨U', l2, c2, s2⟩, hW₁, X', ⟨g', mk, t, L, e1, e2, hq, h1, hL, h2, h3⟩, st⟩ := vx_callVW X hx (C := C) (hh := hh) (bytes := bytes) (maxL := maxL) (ret := ret) ho hl hin hse hcode hy hK (by rw [hT]; exact hcB) hoB hclB hg (hsize.trans hml.symm) (argsL := As) (rest := rest) (fun sig h => hn.trans (hlen sig h)) hstack hW (by rw [hb]; exact hdg)
    (fun vm₁ hW₁ => ⟨hf.1, hf.2, hPc (T.setVm vm₁) hT hW₁⟩)
  dsimp only [Pt.U, Pt.locs, Pt.cells, Pt.slots] at X' e1 e2 h1 h2 h3 st
  subst h1; subst h2; subst h3
  exact ⟨v, (T.setVm vm₁).calling g' mk (Value.ref b :: As).toArray, t, U', L, hT, X', hL, e1, e2, hq, st⟩
section
variable {y : MethodName} {bytes cc : ByteArray} {maxL nL mc ms n index : Nat} {ret : Option FieldType} {ws : List Cond} {rm : Room} {Pc : Array Value → State → Prop} {Qc : Array Value → State → Outcome → State → Prop} {XC : String → State → State → Prop} {free : Addr → Prop} {Ts : List Cond} {own C : String} {b : Addr} {As rest : List Value} {g : JFrame}
theorem vx_runVX {hh : List (Nat × Nat × Nat × Nat)} (S : CallFix p m c cc nL s args Ts own) (hM : vx_Met l y ws rm Pc Qc XC mc ms free) (cw : vx_CVW R s args own C index y bytes maxL ret hh ws rm mc ms n) (hp : PreV s H C b Pc As)
    (hg : g.method = m) (hn : As.length = n) (hsize : g.locals.size = nL) (hstack : g.stack = As.reverse ++ .ref b :: rest) (hW : 2 * g.monitorRoom + (rest.map fun v => v.category).sum ≤ 8) (hdg : decode cc g.pc = .ok (.invokevirtual index, 3)) (hf : cells + mc ≤ R.cells ∧ slots + ms ≤ R.slots) :
    vx_Run p l e R s m args below meth c H locs cells slots mc ms g rest (Qc (Value.ref b :: As).toArray) XC free := by
  obtain ⟨⟨hrc, hrs, hfr, hlo, hws, hcw⟩, hcode, hini, hy, hlen, hl, hin, hse⟩ := cw
  have hK : vx_Back l R p e below s args y 3 8 (PreOf R mc ms Pc) (PostOf Qc mc ms free) (vx_Post XC mc ms free) := vx_backW (hh := hh) (bytes := bytes) (maxL := maxL) (ret := ret) hM hp.1 hrc hrs hfr hlo hws hcw (fun a' U hW => word_at hW (Or.inl (by first | rfl | simp [Cond.onTables, Cond.keeps, Cond.steady])) hini)
  obtain ⟨hx, hb, hml, ho, -⟩ := S
  obtain ⟨-, ⟨cellB, hcB, hoB, hclB⟩, hPc⟩ := hp
  intro T hT X
  rcases vx_callVX X hx (C := C) (hh := hh) (bytes := bytes) (maxL := maxL) (ret := ret) ho hl hin hse hcode hy hK (by rw [hT]; exact hcB) hoB hclB hg (hsize.trans hml.symm) (argsL := As) (rest := rest) (fun sig h => hn.trans (hlen sig h)) hstack hW (by rw [hb]; exact hdg)
    (fun vm₁ hW₁ => ⟨hf.1, hf.2, hPc (T.setVm vm₁) hT hW₁⟩) with ⟨v, vm₁, ⟨U', l2, c2, s2⟩, hW₁, X', ⟨g', mk, t, L, e1, e2, hq, h1, hL, h2, h3⟩, st⟩ | ⟨q, vm₁, ⟨U', l2, c2, s2⟩, hW₁, X', ⟨g', mk, t, L, E, ce, e1, e2, hq, hce, hcv, hcl, h1, hL, h2, h3⟩, st⟩
  · dsimp only [Pt.U, Pt.locs, Pt.cells, Pt.slots] at X' e1 e2 h1 h2 h3 st
    subst h1; subst h2; subst h3
    exact Or.inl ⟨v, (T.setVm vm₁).calling g' mk (Value.ref b :: As).toArray, t, U', L, hT, X', hL, e1, e2, hq, st⟩
  · dsimp only [Pt.U, Pt.locs, Pt.cells, Pt.slots] at X' e1 e2 h1 h2 h3 st hcl
    subst h1; subst h2; subst h3
    exact Or.inr ⟨q, (T.setVm vm₁).calling g' mk (Value.ref b :: As).toArray, t, U', L, E, ce, hT, X', hL, e1, e2, hq, hce, hcv, vx_cls hW₁ hcl, st⟩
theorem vx_runSX {hh : List (Nat × Nat × Nat × Nat)} (S : CallFix p m c cc nL s args Ts own) (hM : vx_Met l y ws rm Pc Qc XC mc ms free) (cw : vx_CSW R s args own index y bytes maxL ret hh ws rm mc ms n) (hp : PreS s H Pc As)
    (hg : g.method = m) (hn : As.length = n) (hsize : g.locals.size = nL) (hstack : g.stack = As.reverse ++ rest) (hW : 2 * g.monitorRoom + (rest.map fun v => v.category).sum ≤ 8) (hdg : decode cc g.pc = .ok (.invokestatic index, 3)) (hf : cells + mc ≤ R.cells ∧ slots + ms ≤ R.slots) :
    vx_Run p l e R s m args below meth c H locs cells slots mc ms g rest (Qc As.toArray) XC free := by
  obtain ⟨⟨hrc, hrs, hfr, hlo, hws, hcw⟩, hcode, hini, hy, hlen, hl, hstt⟩ := cw
  have hK : vx_Back l R p e below s args y 3 8 (PreOf R mc ms Pc) (PostOf Qc mc ms free) (vx_Post XC mc ms free) := vx_backW (hh := hh) (bytes := bytes) (maxL := maxL) (ret := ret) hM hp.1 hrc hrs hfr hlo hws hcw (fun a' U hW => word_at hW (Or.inl (by first | rfl | simp [Cond.onTables, Cond.keeps, Cond.steady])) hini)
  obtain ⟨hx, hb, hml, ho, -⟩ := S
  intro T hT X
  rcases vx_callSX X hx (hh := hh) (bytes := bytes) (maxL := maxL) (ret := ret) ho hl hstt hini hcode hy hK hg (hsize.trans hml.symm) (argsL := As) (rest := rest) (fun sig h => hn.trans (hlen sig h)) hstack hW (by rw [hb]; exact hdg)
    (fun vm₁ hW₁ => ⟨hf.1, hf.2, hp.2 (T.setVm vm₁) hT hW₁⟩) with ⟨v, vm₁, ⟨U', l2, c2, s2⟩, hW₁, X', ⟨g', mk, t, L, e1, e2, hq, h1, hL, h2, h3⟩, st⟩ | ⟨q, vm₁, ⟨U', l2, c2, s2⟩, hW₁, X', ⟨g', mk, t, L, E, ce, e1, e2, hq, hce, hcv, hcl, h1, hL, h2, h3⟩, st⟩
  · dsimp only [Pt.U, Pt.locs, Pt.cells, Pt.slots] at X' e1 e2 h1 h2 h3 st
    subst h1; subst h2; subst h3
    exact Or.inl ⟨v, (T.setVm vm₁).calling g' mk As.toArray, t, U', L, hT, X', hL, e1, e2, hq, st⟩
  · dsimp only [Pt.U, Pt.locs, Pt.cells, Pt.slots] at X' e1 e2 h1 h2 h3 st hcl
    subst h1; subst h2; subst h3
    exact Or.inr ⟨q, (T.setVm vm₁).calling g' mk As.toArray, t, U', L, E, ce, hT, X', hL, e1, e2, hq, hce, hcv, vx_cls hW₁ hcl, st⟩
end
end VXH
theorem vx_ofWH {l : Launch} {y : MethodName} {ws ws' : List Cond} {rm : Room} {Pc : Array Value → State → Prop} {Qc : Array Value → State → Outcome → State → Prop} {XC : String → State → State → Prop} {mc ms : Nat} {free : Addr → Prop} {cc : ByteArray} {maxL : Nat} {ret : Option FieldType} {hh : List (Nat × Nat × Nat × Nat)}
    (hy : plainName y.cls = true) (hw : ws = Cond.codeWith y cc maxL ret hh :: ws')
    (body : ∀ p e s m args below meth c s₁, BodyLoose p l y (headSpec ws rm) cc maxL ret e s m args below meth c s₁ → c.maxLocals = maxL → Pc args s →
      W p l e (headSpec ws rm).room s m args below meth c s.heap [] 0 0 (vx_MQ below Qc XC args s mc ms free) (entryFrame m args maxL)) : vx_Met l y ws rm Pc Qc XC mc ms free := by
  refine MetFree.of_bodyS (code := cc) (maxLocals := maxL) (ret := ret) hy ?_ ?_
  · intro args s m h hn
    obtain ⟨m9, meth, c, hn9, h1, h2, h3, h4, -, h5, h6, -⟩ := Cond.codeWith_spec (atoms_spec (ws := ws) h _ (by rw [hw]; exact List.mem_cons_self))
    cases hn.symm.trans hn9
    exact ⟨meth, c, h1, h2, h3, h4, h5, h6⟩
  · intro p e s m args below meth c s₁ B hml hP _
    have hh0 : s₁.heap = s.heap := by rw [B.state]; rfl
    obtain ⟨t, a1, o, b1, b2, b3⟩ := body p e s m args below meth c s₁ B hml hP s₁ hh0 (Stand.of_body B)
    exact ⟨t, o, a1, b1, b2, b3⟩
/-! ===== END ===== -/
end
section
def RX0 : String := "Pathparade$AllowedWalk"
def TX0 : u_T := fun k => match k with
  | 0 => ("Pathparade$AllowedWalk", "network", "LPathparade$Network;", true)
  | 1 => ("Pathparade$AllowedWalk", "lengths", "[I", true)
  | 2 => ("Pathparade$AllowedWalk", "found", "[I", true)
  | _ => ("Pathparade$AllowedWalk", "foundSize", "I", false)
def tyX0 : Nat → FieldType := fun k => match k with
  | 0 => .object "Pathparade$Network"
  | 1 => .array .int
  | 2 => .array .int
  | _ => .int
abbrev wsX00 : List Cond := u_ws RX0 TX0 4
theorem nmX0 : ∀ a, a < 4 → ∀ b, b < 4 → a ≠ b → (TX0 a).2.1 ≠ (TX0 b).2.1 := by decide +kernel
theorem tyX0_ok : ∀ k, k < 4 → parseFieldDescriptor (TX0 k).2.2.1 = some (tyX0 k) := by decide +kernel
abbrev cX0_init : ByteArray := prog_2_method_1_code
def yX0_init : MethodName := ⟨RX0, "<init>", "(LPathparade$Network;)V"⟩
abbrev cX0_find : ByteArray := prog_2_method_2_code
def yX0_find : MethodName := ⟨RX0, "find", "(II)I"⟩
abbrev cX0_measureTo : ByteArray := prog_2_method_3_code
def yX0_measureTo : MethodName := ⟨RX0, "measureTo", "(I)V"⟩
abbrev cX0_shortenAll : ByteArray := prog_2_method_4_code
def yX0_shortenAll : MethodName := ⟨RX0, "shortenAll", "(I)Z"⟩
abbrev cX0_lengthFrom : ByteArray := prog_2_method_5_code
def yX0_lengthFrom : MethodName := ⟨RX0, "lengthFrom", "(I)I"⟩
abbrev cX0_bestAfter : ByteArray := prog_2_method_6_code
def yX0_bestAfter : MethodName := ⟨RX0, "bestAfter", "(II)I"⟩
abbrev cX0_foundSize : ByteArray := prog_2_method_7_code
def yX0_foundSize : MethodName := ⟨RX0, "foundSize", "()I"⟩
abbrev cX0_foundEdge : ByteArray := prog_2_method_8_code
def yX0_foundEdge : MethodName := ⟨RX0, "foundEdge", "(I)I"⟩
def RX1 : String := "Pathparade$DisjointFlow"
def TX1 : u_T := fun k => match k with
  | 0 => ("Pathparade$DisjointFlow", "network", "LPathparade$Network;", true)
  | 1 => ("Pathparade$DisjointFlow", "tails", "[I", true)
  | 2 => ("Pathparade$DisjointFlow", "heads", "[I", true)
  | 3 => ("Pathparade$DisjointFlow", "lengths", "[I", true)
  | 4 => ("Pathparade$DisjointFlow", "rooms", "[I", true)
  | 5 => ("Pathparade$DisjointFlow", "flows", "[I", true)
  | 6 => ("Pathparade$DisjointFlow", "costs", "[I", true)
  | 7 => ("Pathparade$DisjointFlow", "arcs", "[I", true)
  | 8 => ("Pathparade$DisjointFlow", "source", "I", false)
  | _ => ("Pathparade$DisjointFlow", "target", "I", false)
def tyX1 : Nat → FieldType := fun k => match k with
  | 0 => .object "Pathparade$Network"
  | 1 => .array .int
  | 2 => .array .int
  | 3 => .array .int
  | 4 => .array .int
  | 5 => .array .int
  | 6 => .array .int
  | 7 => .array .int
  | 8 => .int
  | _ => .int
abbrev wsX10 : List Cond := u_ws RX1 TX1 10
theorem nmX1 : ∀ a, a < 10 → ∀ b, b < 10 → a ≠ b → (TX1 a).2.1 ≠ (TX1 b).2.1 := by decide +kernel
theorem tyX1_ok : ∀ k, k < 10 → parseFieldDescriptor (TX1 k).2.2.1 = some (tyX1 k) := by decide +kernel
abbrev cX1_init : ByteArray := prog_3_method_1_code
def yX1_init : MethodName := ⟨RX1, "<init>", "(LPathparade$Network;)V"⟩
abbrev cX1_pathTotal : ByteArray := prog_3_method_2_code
def yX1_pathTotal : MethodName := ⟨RX1, "pathTotal", "(IIZ)I"⟩
abbrev cX1_leastLength : ByteArray := prog_3_method_3_code
def yX1_leastLength : MethodName := ⟨RX1, "leastLength", "(IIIZ)I"⟩
abbrev cX1_layArcs : ByteArray := prog_3_method_4_code
def yX1_layArcs : MethodName := ⟨RX1, "layArcs", "(IIZ)V"⟩
abbrev cX1_layArc : ByteArray := prog_3_method_5_code
def yX1_layArc : MethodName := ⟨RX1, "layArc", "(IIII)V"⟩
abbrev cX1_pointBefore : ByteArray := prog_3_method_6_code
def yX1_pointBefore : MethodName := ⟨RX1, "pointBefore", "(I)I"⟩
abbrev cX1_pointBehind : ByteArray := prog_3_method_7_code
def yX1_pointBehind : MethodName := ⟨RX1, "pointBehind", "(I)I"⟩
abbrev cX1_addPath : ByteArray := prog_3_method_8_code
def yX1_addPath : MethodName := ⟨RX1, "addPath", "()I"⟩
abbrev cX1_cheapenAll : ByteArray := prog_3_method_9_code
def yX1_cheapenAll : MethodName := ⟨RX1, "cheapenAll", "()Z"⟩
abbrev cX1_reach : ByteArray := prog_3_method_10_code
def yX1_reach : MethodName := ⟨RX1, "reach", "(IIII)Z"⟩
abbrev cX1_send : ByteArray := prog_3_method_11_code
def yX1_send : MethodName := ⟨RX1, "send", "()V"⟩
def RX2 : String := "Pathparade$Distances"
def TX2 : u_T := fun k => match k with
  | 0 => ("Pathparade$Distances", "network", "LPathparade$Network;", true)
  | _ => ("Pathparade$Distances", "lengths", "[I", true)
def tyX2 : Nat → FieldType := fun k => match k with
  | 0 => .object "Pathparade$Network"
  | _ => .array .int
abbrev wsX20 : List Cond := u_ws RX2 TX2 2
theorem nmX2 : ∀ a, a < 2 → ∀ b, b < 2 → a ≠ b → (TX2 a).2.1 ≠ (TX2 b).2.1 := by decide +kernel
theorem tyX2_ok : ∀ k, k < 2 → parseFieldDescriptor (TX2 k).2.2.1 = some (tyX2 k) := by decide +kernel
abbrev cX2_init : ByteArray := prog_4_method_1_code
def yX2_init : MethodName := ⟨RX2, "<init>", "(LPathparade$Network;)V"⟩
abbrev cX2_measureTo : ByteArray := prog_4_method_2_code
def yX2_measureTo : MethodName := ⟨RX2, "measureTo", "(I)V"⟩
abbrev cX2_shortenAll : ByteArray := prog_4_method_3_code
def yX2_shortenAll : MethodName := ⟨RX2, "shortenAll", "()Z"⟩
abbrev cX2_ofNode : ByteArray := prog_4_method_4_code
def yX2_ofNode : MethodName := ⟨RX2, "ofNode", "(I)I"⟩
def RX3 : String := "Pathparade$Network"
def TX3 : u_T := fun k => match k with
  | 0 => ("Pathparade$Network", "tails", "[I", true)
  | 1 => ("Pathparade$Network", "heads", "[I", true)
  | 2 => ("Pathparade$Network", "lengths", "[I", true)
  | 3 => ("Pathparade$Network", "forbidden", "[I", true)
  | 4 => ("Pathparade$Network", "outEdges", "[I", true)
  | 5 => ("Pathparade$Network", "outStarts", "[I", true)
  | 6 => ("Pathparade$Network", "nodeTotal", "I", false)
  | 7 => ("Pathparade$Network", "edgeTotal", "I", false)
  | 8 => ("Pathparade$Network", "closedNodes", "I", false)
  | _ => ("Pathparade$Network", "closedEdges", "I", false)
def tyX3 : Nat → FieldType := fun k => match k with
  | 0 => .array .int
  | 1 => .array .int
  | 2 => .array .int
  | 3 => .array .int
  | 4 => .array .int
  | 5 => .array .int
  | 6 => .int
  | 7 => .int
  | 8 => .int
  | _ => .int
abbrev wsX30 : List Cond := u_ws RX3 TX3 10
theorem nmX3 : ∀ a, a < 10 → ∀ b, b < 10 → a ≠ b → (TX3 a).2.1 ≠ (TX3 b).2.1 := by decide +kernel
theorem tyX3_ok : ∀ k, k < 10 → parseFieldDescriptor (TX3 k).2.2.1 = some (tyX3 k) := by decide +kernel
abbrev cX3_init : ByteArray := prog_5_method_1_code
def yX3_init : MethodName := ⟨RX3, "<init>", "()V"⟩
abbrev cX3_clear : ByteArray := prog_5_method_2_code
def yX3_clear : MethodName := ⟨RX3, "clear", "(I)V"⟩
abbrev cX3_append : ByteArray := prog_5_method_3_code
def yX3_append : MethodName := ⟨RX3, "append", "(III)I"⟩
abbrev cX3_changeLength : ByteArray := prog_5_method_4_code
def yX3_changeLength : MethodName := ⟨RX3, "changeLength", "(II)I"⟩
abbrev cX3_switchEdge : ByteArray := prog_5_method_5_code
def yX3_switchEdge : MethodName := ⟨RX3, "switchEdge", "(I)Z"⟩
abbrev cX3_switchNode : ByteArray := prog_5_method_6_code
def yX3_switchNode : MethodName := ⟨RX3, "switchNode", "(I)Z"⟩
abbrev cX3_switchTurn : ByteArray := prog_5_method_7_code
def yX3_switchTurn : MethodName := ⟨RX3, "switchTurn", "(II)Z"⟩
abbrev cX3_listOutEdges : ByteArray := prog_5_method_8_code
def yX3_listOutEdges : MethodName := ⟨RX3, "listOutEdges", "()V"⟩
abbrev cX3_isUsable : ByteArray := prog_5_method_9_code
def yX3_isUsable : MethodName := ⟨RX3, "isUsable", "(I)Z"⟩
abbrev cX3_hasNode : ByteArray := prog_5_method_10_code
def yX3_hasNode : MethodName := ⟨RX3, "hasNode", "(I)Z"⟩
abbrev cX3_hasEdge : ByteArray := prog_5_method_11_code
def yX3_hasEdge : MethodName := ⟨RX3, "hasEdge", "(I)Z"⟩
abbrev cX3_hasRoom : ByteArray := prog_5_method_12_code
def yX3_hasRoom : MethodName := ⟨RX3, "hasRoom", "()Z"⟩
abbrev cX3_isForbidden : ByteArray := prog_5_method_13_code
def yX3_isForbidden : MethodName := ⟨RX3, "isForbidden", "(II)Z"⟩
abbrev cX3_nodeTotal : ByteArray := prog_5_method_14_code
def yX3_nodeTotal : MethodName := ⟨RX3, "nodeTotal", "()I"⟩
abbrev cX3_edgeTotal : ByteArray := prog_5_method_15_code
def yX3_edgeTotal : MethodName := ⟨RX3, "edgeTotal", "()I"⟩
abbrev cX3_usableTotal : ByteArray := prog_5_method_16_code
def yX3_usableTotal : MethodName := ⟨RX3, "usableTotal", "()I"⟩
abbrev cX3_tailOf : ByteArray := prog_5_method_17_code
def yX3_tailOf : MethodName := ⟨RX3, "tailOf", "(I)I"⟩
abbrev cX3_headOf : ByteArray := prog_5_method_18_code
def yX3_headOf : MethodName := ⟨RX3, "headOf", "(I)I"⟩
abbrev cX3_lengthOf : ByteArray := prog_5_method_19_code
def yX3_lengthOf : MethodName := ⟨RX3, "lengthOf", "(I)I"⟩
abbrev cX3_outEdge : ByteArray := prog_5_method_20_code
def yX3_outEdge : MethodName := ⟨RX3, "outEdge", "(I)I"⟩
abbrev cX3_outStart : ByteArray := prog_5_method_21_code
def yX3_outStart : MethodName := ⟨RX3, "outStart", "(I)I"⟩
abbrev cX3_outEnd : ByteArray := prog_5_method_22_code
def yX3_outEnd : MethodName := ⟨RX3, "outEnd", "(I)I"⟩
def RX4 : String := "Pathparade$PathCount"
def TX4 : u_T := fun k => match k with
  | 0 => ("Pathparade$PathCount", "network", "LPathparade$Network;", true)
  | 1 => ("Pathparade$PathCount", "distances", "LPathparade$Distances;", true)
  | _ => ("Pathparade$PathCount", "to", "I", false)
def tyX4 : Nat → FieldType := fun k => match k with
  | 0 => .object "Pathparade$Network"
  | 1 => .object "Pathparade$Distances"
  | _ => .int
abbrev wsX40 : List Cond := u_ws RX4 TX4 3
theorem nmX4 : ∀ a, a < 3 → ∀ b, b < 3 → a ≠ b → (TX4 a).2.1 ≠ (TX4 b).2.1 := by decide +kernel
theorem tyX4_ok : ∀ k, k < 3 → parseFieldDescriptor (TX4 k).2.2.1 = some (tyX4 k) := by decide +kernel
abbrev cX4_init : ByteArray := prog_6_method_1_code
def yX4_init : MethodName := ⟨RX4, "<init>", "(LPathparade$Network;)V"⟩
abbrev cX4_upTo : ByteArray := prog_6_method_2_code
def yX4_upTo : MethodName := ⟨RX4, "upTo", "(III)I"⟩
abbrev cX4_countFrom : ByteArray := prog_6_method_3_code
def yX4_countFrom : MethodName := ⟨RX4, "countFrom", "(LPathparade$PathCount;IIII)I"⟩
def RX5 : String := "Pathparade$PathDraw"
def TX5 : u_T := fun k => match k with
  | 0 => ("Pathparade$PathDraw", "network", "LPathparade$Network;", true)
  | 1 => ("Pathparade$PathDraw", "distances", "LPathparade$Distances;", true)
  | 2 => ("Pathparade$PathDraw", "page", "[J", true)
  | 3 => ("Pathparade$PathDraw", "pageSize", "I", false)
  | 4 => ("Pathparade$PathDraw", "pageNext", "I", false)
  | 5 => ("Pathparade$PathDraw", "from", "I", false)
  | 6 => ("Pathparade$PathDraw", "to", "I", false)
  | 7 => ("Pathparade$PathDraw", "drawn", "I", false)
  | _ => ("Pathparade$PathDraw", "current", "J", false)
def tyX5 : Nat → FieldType := fun k => match k with
  | 0 => .object "Pathparade$Network"
  | 1 => .object "Pathparade$Distances"
  | 2 => .array .long
  | 3 => .int
  | 4 => .int
  | 5 => .int
  | 6 => .int
  | 7 => .int
  | _ => .long
abbrev wsX50 : List Cond := u_ws RX5 TX5 9
theorem nmX5 : ∀ a, a < 9 → ∀ b, b < 9 → a ≠ b → (TX5 a).2.1 ≠ (TX5 b).2.1 := by decide +kernel
theorem tyX5_ok : ∀ k, k < 9 → parseFieldDescriptor (TX5 k).2.2.1 = some (tyX5 k) := by decide +kernel
abbrev cX5_init : ByteArray := prog_7_method_1_code
def yX5_init : MethodName := ⟨RX5, "<init>", "(LPathparade$Network;)V"⟩
abbrev cX5_restart : ByteArray := prog_7_method_2_code
def yX5_restart : MethodName := ⟨RX5, "restart", "(II)V"⟩
abbrev cX5_advance : ByteArray := prog_7_method_3_code
def yX5_advance : MethodName := ⟨RX5, "advance", "()Z"⟩
abbrev cX5_turnPage : ByteArray := prog_7_method_4_code
def yX5_turnPage : MethodName := ⟨RX5, "turnPage", "()V"⟩
abbrev cX5_explore : ByteArray := prog_7_method_5_code
def yX5_explore : MethodName := ⟨RX5, "explore", "(LPathparade$PathDraw;IIJI)V"⟩
abbrev cX5_leadsOn : ByteArray := prog_7_method_6_code
def yX5_leadsOn : MethodName := ⟨RX5, "leadsOn", "(IJ)Z"⟩
abbrev cX5_fits : ByteArray := prog_7_method_7_code
def yX5_fits : MethodName := ⟨RX5, "fits", "(J)Z"⟩
abbrev cX5_keep : ByteArray := prog_7_method_8_code
def yX5_keep : MethodName := ⟨RX5, "keep", "(J)V"⟩
abbrev cX5_ofLength : ByteArray := prog_7_method_9_code
def yX5_ofLength : MethodName := ⟨RX5, "ofLength", "(I)J"⟩
abbrev cX5_slotShift : ByteArray := prog_7_method_10_code
def yX5_slotShift : MethodName := ⟨RX5, "slotShift", "(I)I"⟩
abbrev cX5_drawnTotal : ByteArray := prog_7_method_11_code
def yX5_drawnTotal : MethodName := ⟨RX5, "drawnTotal", "()I"⟩
abbrev cX5_currentLength : ByteArray := prog_7_method_12_code
def yX5_currentLength : MethodName := ⟨RX5, "currentLength", "()I"⟩
abbrev cX5_currentEdge : ByteArray := prog_7_method_13_code
def yX5_currentEdge : MethodName := ⟨RX5, "currentEdge", "(I)I"⟩
abbrev cX5_currentSize : ByteArray := prog_7_method_14_code
def yX5_currentSize : MethodName := ⟨RX5, "currentSize", "()I"⟩
def RX6 : String := "Pathparade$WalkDraw"
def TX6 : u_T := fun k => match k with
  | 0 => ("Pathparade$WalkDraw", "network", "LPathparade$Network;", true)
  | 1 => ("Pathparade$WalkDraw", "lengths", "[I", true)
  | 2 => ("Pathparade$WalkDraw", "sizes", "[I", true)
  | 3 => ("Pathparade$WalkDraw", "firstEdges", "[I", true)
  | 4 => ("Pathparade$WalkDraw", "rests", "[I", true)
  | 5 => ("Pathparade$WalkDraw", "listed", "[I", true)
  | 6 => ("Pathparade$WalkDraw", "used", "[I", true)
  | 7 => ("Pathparade$WalkDraw", "from", "I", false)
  | _ => ("Pathparade$WalkDraw", "drawn", "I", false)
def tyX6 : Nat → FieldType := fun k => match k with
  | 0 => .object "Pathparade$Network"
  | 1 => .array .int
  | 2 => .array .int
  | 3 => .array .int
  | 4 => .array .int
  | 5 => .array .int
  | 6 => .array .int
  | 7 => .int
  | _ => .int
abbrev wsX60 : List Cond := u_ws RX6 TX6 9
theorem nmX6 : ∀ a, a < 9 → ∀ b, b < 9 → a ≠ b → (TX6 a).2.1 ≠ (TX6 b).2.1 := by decide +kernel
theorem tyX6_ok : ∀ k, k < 9 → parseFieldDescriptor (TX6 k).2.2.1 = some (tyX6 k) := by decide +kernel
abbrev cX6_init : ByteArray := prog_8_method_1_code
def yX6_init : MethodName := ⟨RX6, "<init>", "(LPathparade$Network;)V"⟩
abbrev cX6_restart : ByteArray := prog_8_method_2_code
def yX6_restart : MethodName := ⟨RX6, "restart", "(II)V"⟩
abbrev cX6_advance : ByteArray := prog_8_method_3_code
def yX6_advance : MethodName := ⟨RX6, "advance", "()Z"⟩
abbrev cX6_shortestEdge : ByteArray := prog_8_method_4_code
def yX6_shortestEdge : MethodName := ⟨RX6, "shortestEdge", "()I"⟩
abbrev cX6_putAhead : ByteArray := prog_8_method_5_code
def yX6_putAhead : MethodName := ⟨RX6, "putAhead", "(I)V"⟩
abbrev cX6_list : ByteArray := prog_8_method_6_code
def yX6_list : MethodName := ⟨RX6, "list", "(IIIII)V"⟩
abbrev cX6_entry : ByteArray := prog_8_method_7_code
def yX6_entry : MethodName := ⟨RX6, "entry", "(II)I"⟩
abbrev cX6_currentEntry : ByteArray := prog_8_method_8_code
def yX6_currentEntry : MethodName := ⟨RX6, "currentEntry", "()I"⟩
abbrev cX6_drawnTotal : ByteArray := prog_8_method_9_code
def yX6_drawnTotal : MethodName := ⟨RX6, "drawnTotal", "()I"⟩
abbrev cX6_currentLength : ByteArray := prog_8_method_10_code
def yX6_currentLength : MethodName := ⟨RX6, "currentLength", "()I"⟩
abbrev cX6_currentSize : ByteArray := prog_8_method_11_code
def yX6_currentSize : MethodName := ⟨RX6, "currentSize", "()I"⟩
abbrev cX6_currentEdge : ByteArray := prog_8_method_12_code
def yX6_currentEdge : MethodName := ⟨RX6, "currentEdge", "(I)I"⟩
def RX7 : String := "Pathparade"
def TX7 : u_T := fun k => match k with
  | 0 => ("Pathparade", "network", "LPathparade$Network;", true)
  | 1 => ("Pathparade", "distances", "LPathparade$Distances;", true)
  | 2 => ("Pathparade", "paths", "LPathparade$PathDraw;", true)
  | 3 => ("Pathparade", "pathCount", "LPathparade$PathCount;", true)
  | 4 => ("Pathparade", "walks", "LPathparade$WalkDraw;", true)
  | 5 => ("Pathparade", "disjoint", "LPathparade$DisjointFlow;", true)
  | 6 => ("Pathparade", "allowed", "LPathparade$AllowedWalk;", true)
  | 7 => ("Pathparade", "pathsStarted", "Z", false)
  | _ => ("Pathparade", "walksStarted", "Z", false)
def tyX7 : Nat → FieldType := fun k => match k with
  | 0 => .object "Pathparade$Network"
  | 1 => .object "Pathparade$Distances"
  | 2 => .object "Pathparade$PathDraw"
  | 3 => .object "Pathparade$PathCount"
  | 4 => .object "Pathparade$WalkDraw"
  | 5 => .object "Pathparade$DisjointFlow"
  | 6 => .object "Pathparade$AllowedWalk"
  | 7 => .boolean
  | _ => .boolean
abbrev wsX70 : List Cond := u_ws RX7 TX7 9
theorem nmX7 : ∀ a, a < 9 → ∀ b, b < 9 → a ≠ b → (TX7 a).2.1 ≠ (TX7 b).2.1 := by decide +kernel
theorem tyX7_ok : ∀ k, k < 9 → parseFieldDescriptor (TX7 k).2.2.1 = some (tyX7 k) := by decide +kernel
abbrev cX7_init : ByteArray := prog_1_method_1_code
def yX7_init : MethodName := ⟨RX7, "<init>", "()V"⟩
abbrev cX7_begin : ByteArray := prog_1_method_2_code
def yX7_begin : MethodName := ⟨RX7, "begin", "(I)V"⟩
abbrev cX7_addEdge : ByteArray := prog_1_method_3_code
def yX7_addEdge : MethodName := ⟨RX7, "addEdge", "(III)I"⟩
abbrev cX7_setLength : ByteArray := prog_1_method_4_code
def yX7_setLength : MethodName := ⟨RX7, "setLength", "(II)I"⟩
abbrev cX7_toggleEdge : ByteArray := prog_1_method_5_code
def yX7_toggleEdge : MethodName := ⟨RX7, "toggleEdge", "(I)Z"⟩
abbrev cX7_toggleNode : ByteArray := prog_1_method_6_code
def yX7_toggleNode : MethodName := ⟨RX7, "toggleNode", "(I)Z"⟩
abbrev cX7_toggleTurn : ByteArray := prog_1_method_7_code
def yX7_toggleTurn : MethodName := ⟨RX7, "toggleTurn", "(II)Z"⟩
abbrev cX7_nodes : ByteArray := prog_1_method_8_code
def yX7_nodes : MethodName := ⟨RX7, "nodes", "()I"⟩
abbrev cX7_edges : ByteArray := prog_1_method_9_code
def yX7_edges : MethodName := ⟨RX7, "edges", "()I"⟩
abbrev cX7_usableEdges : ByteArray := prog_1_method_10_code
def yX7_usableEdges : MethodName := ⟨RX7, "usableEdges", "()I"⟩
abbrev cX7_distance : ByteArray := prog_1_method_11_code
def yX7_distance : MethodName := ⟨RX7, "distance", "(II)I"⟩
abbrev cX7_startPaths : ByteArray := prog_1_method_12_code
def yX7_startPaths : MethodName := ⟨RX7, "startPaths", "(II)V"⟩
abbrev cX7_nextPath : ByteArray := prog_1_method_13_code
def yX7_nextPath : MethodName := ⟨RX7, "nextPath", "()I"⟩
abbrev cX7_pathsDrawn : ByteArray := prog_1_method_14_code
def yX7_pathsDrawn : MethodName := ⟨RX7, "pathsDrawn", "()I"⟩
abbrev cX7_pathEdges : ByteArray := prog_1_method_15_code
def yX7_pathEdges : MethodName := ⟨RX7, "pathEdges", "()I"⟩
abbrev cX7_pathEdge : ByteArray := prog_1_method_16_code
def yX7_pathEdge : MethodName := ⟨RX7, "pathEdge", "(I)I"⟩
abbrev cX7_countPaths : ByteArray := prog_1_method_17_code
def yX7_countPaths : MethodName := ⟨RX7, "countPaths", "(III)I"⟩
abbrev cX7_startWalks : ByteArray := prog_1_method_18_code
def yX7_startWalks : MethodName := ⟨RX7, "startWalks", "(II)V"⟩
abbrev cX7_nextWalk : ByteArray := prog_1_method_19_code
def yX7_nextWalk : MethodName := ⟨RX7, "nextWalk", "()I"⟩
abbrev cX7_walksDrawn : ByteArray := prog_1_method_20_code
def yX7_walksDrawn : MethodName := ⟨RX7, "walksDrawn", "()I"⟩
abbrev cX7_walkEdges : ByteArray := prog_1_method_21_code
def yX7_walkEdges : MethodName := ⟨RX7, "walkEdges", "()I"⟩
abbrev cX7_walkEdge : ByteArray := prog_1_method_22_code
def yX7_walkEdge : MethodName := ⟨RX7, "walkEdge", "(I)I"⟩
abbrev cX7_disjointPaths : ByteArray := prog_1_method_23_code
def yX7_disjointPaths : MethodName := ⟨RX7, "disjointPaths", "(IIZ)I"⟩
abbrev cX7_disjointLength : ByteArray := prog_1_method_24_code
def yX7_disjointLength : MethodName := ⟨RX7, "disjointLength", "(IIIZ)I"⟩
abbrev cX7_allowedLength : ByteArray := prog_1_method_25_code
def yX7_allowedLength : MethodName := ⟨RX7, "allowedLength", "(II)I"⟩
abbrev cX7_allowedEdges : ByteArray := prog_1_method_26_code
def yX7_allowedEdges : MethodName := ⟨RX7, "allowedEdges", "(II)I"⟩
abbrev cX7_allowedEdge : ByteArray := prog_1_method_27_code
def yX7_allowedEdge : MethodName := ⟨RX7, "allowedEdge", "(III)I"⟩
abbrev cX7_endDraws : ByteArray := prog_1_method_28_code
def yX7_endDraws : MethodName := ⟨RX7, "endDraws", "()V"⟩
abbrev cX7_requireNodes : ByteArray := prog_1_method_29_code
def yX7_requireNodes : MethodName := ⟨RX7, "requireNodes", "(II)V"⟩
abbrev cX7_requireTwoNodes : ByteArray := prog_1_method_30_code
def yX7_requireTwoNodes : MethodName := ⟨RX7, "requireTwoNodes", "(II)V"⟩
abbrev cX7_requireEdge : ByteArray := prog_1_method_31_code
def yX7_requireEdge : MethodName := ⟨RX7, "requireEdge", "(I)V"⟩
abbrev cX7_requireRange : ByteArray := prog_1_method_32_code
def yX7_requireRange : MethodName := ⟨RX7, "requireRange", "(III)V"⟩
abbrev cX7_requireStarted : ByteArray := prog_1_method_33_code
def yX7_requireStarted : MethodName := ⟨RX7, "requireStarted", "(Z)V"⟩
abbrev cX7_requireDrawn : ByteArray := prog_1_method_34_code
def yX7_requireDrawn : MethodName := ⟨RX7, "requireDrawn", "(I)V"⟩
abbrev cX7_requireListed : ByteArray := prog_1_method_35_code
def yX7_requireListed : MethodName := ⟨RX7, "requireListed", "(I)I"⟩
abbrev cX7_requireWay : ByteArray := prog_1_method_36_code
def yX7_requireWay : MethodName := ⟨RX7, "requireWay", "(I)I"⟩
abbrev cX7_at : ByteArray := prog_1_method_37_code
def yX7_at : MethodName := ⟨RX7, "at", "([II)I"⟩
abbrev cX7_put : ByteArray := prog_1_method_38_code
def yX7_put : MethodName := ⟨RX7, "put", "([III)V"⟩
abbrev cX7_at_ : ByteArray := prog_1_method_39_code
def yX7_at_ : MethodName := ⟨RX7, "at", "([JI)J"⟩
abbrev cX7_put_ : ByteArray := prog_1_method_40_code
def yX7_put_ : MethodName := ⟨RX7, "put", "([JIJ)V"⟩
abbrev cX7_hasBit : ByteArray := prog_1_method_41_code
def yX7_hasBit : MethodName := ⟨RX7, "hasBit", "(II)Z"⟩
def RX8 : String := "PathparadeModel"
def TX8 : u_T := fun k => match k with
  | 0 => ("PathparadeModel", "thrown", "I", false)
  | 1 => ("PathparadeModel", "nodes", "I", false)
  | 2 => ("PathparadeModel", "edges", "I", false)
  | 3 => ("PathparadeModel", "begins", "[I", true)
  | 4 => ("PathparadeModel", "ends", "[I", true)
  | 5 => ("PathparadeModel", "lengths", "[I", true)
  | 6 => ("PathparadeModel", "areShut", "[Z", true)
  | 7 => ("PathparadeModel", "areClosed", "[Z", true)
  | 8 => ("PathparadeModel", "areForbidden", "[Z", true)
  | 9 => ("PathparadeModel", "areOnPaths", "Z", false)
  | 10 => ("PathparadeModel", "pathFrom", "I", false)
  | 11 => ("PathparadeModel", "pathTo", "I", false)
  | 12 => ("PathparadeModel", "pathsDrawn", "I", false)
  | 13 => ("PathparadeModel", "pathSize", "I", false)
  | 14 => ("PathparadeModel", "pathLength", "I", false)
  | 15 => ("PathparadeModel", "path", "[I", true)
  | 16 => ("PathparadeModel", "along", "[I", true)
  | 17 => ("PathparadeModel", "at", "[I", true)
  | 18 => ("PathparadeModel", "gone", "[I", true)
  | 19 => ("PathparadeModel", "tried", "[I", true)
  | 20 => ("PathparadeModel", "best", "[I", true)
  | 21 => ("PathparadeModel", "bestSize", "I", false)
  | 22 => ("PathparadeModel", "bestLength", "I", false)
  | 23 => ("PathparadeModel", "areOnWalks", "Z", false)
  | 24 => ("PathparadeModel", "walkFrom", "I", false)
  | 25 => ("PathparadeModel", "walkTo", "I", false)
  | 26 => ("PathparadeModel", "walksDrawn", "I", false)
  | 27 => ("PathparadeModel", "walkSize", "I", false)
  | 28 => ("PathparadeModel", "walk", "[I", true)
  | 29 => ("PathparadeModel", "firsts", "[I", true)
  | 30 => ("PathparadeModel", "counts", "[I", true)
  | 31 => ("PathparadeModel", "waitLengths", "[I", true)
  | 32 => ("PathparadeModel", "waitNodes", "[I", true)
  | 33 => ("PathparadeModel", "waits", "I", false)
  | 34 => ("PathparadeModel", "arcFrom", "[I", true)
  | 35 => ("PathparadeModel", "arcTo", "[I", true)
  | 36 => ("PathparadeModel", "arcRoom", "[I", true)
  | 37 => ("PathparadeModel", "arcLength", "[I", true)
  | 38 => ("PathparadeModel", "arcs", "I", false)
  | 39 => ("PathparadeModel", "reach", "[I", true)
  | 40 => ("PathparadeModel", "by", "[I", true)
  | 41 => ("PathparadeModel", "rest", "[I", true)
  | 42 => ("PathparadeModel", "allowed", "[I", true)
  | _ => ("PathparadeModel", "allowedSize", "I", false)
def tyX8 : Nat → FieldType := fun k => match k with
  | 0 => .int
  | 1 => .int
  | 2 => .int
  | 3 => .array .int
  | 4 => .array .int
  | 5 => .array .int
  | 6 => .array .boolean
  | 7 => .array .boolean
  | 8 => .array .boolean
  | 9 => .boolean
  | 10 => .int
  | 11 => .int
  | 12 => .int
  | 13 => .int
  | 14 => .int
  | 15 => .array .int
  | 16 => .array .int
  | 17 => .array .int
  | 18 => .array .int
  | 19 => .array .int
  | 20 => .array .int
  | 21 => .int
  | 22 => .int
  | 23 => .boolean
  | 24 => .int
  | 25 => .int
  | 26 => .int
  | 27 => .int
  | 28 => .array .int
  | 29 => .array .int
  | 30 => .array .int
  | 31 => .array .int
  | 32 => .array .int
  | 33 => .int
  | 34 => .array .int
  | 35 => .array .int
  | 36 => .array .int
  | 37 => .array .int
  | 38 => .int
  | 39 => .array .int
  | 40 => .array .int
  | 41 => .array .int
  | 42 => .array .int
  | _ => .int
abbrev wsX80 : List Cond := u_ws RX8 TX8 44
theorem nmX8 : ∀ a, a < 44 → ∀ b, b < 44 → a ≠ b → (TX8 a).2.1 ≠ (TX8 b).2.1 := by decide +kernel
theorem tyX8_ok : ∀ k, k < 44 → parseFieldDescriptor (TX8 k).2.2.1 = some (tyX8 k) := by decide +kernel
abbrev cX8_init : ByteArray := prog_10_method_1_code
def yX8_init : MethodName := ⟨RX8, "<init>", "()V"⟩
abbrev cX8_thrown : ByteArray := prog_10_method_2_code
def yX8_thrown : MethodName := ⟨RX8, "thrown", "()I"⟩
abbrev cX8_holds : ByteArray := prog_10_method_3_code
def yX8_holds : MethodName := ⟨RX8, "holds", "(I)Z"⟩
abbrev cX8_in : ByteArray := prog_10_method_4_code
def yX8_in : MethodName := ⟨RX8, "in", "(III)Z"⟩
abbrev cX8_isNode : ByteArray := prog_10_method_5_code
def yX8_isNode : MethodName := ⟨RX8, "isNode", "(I)Z"⟩
abbrev cX8_areNodes : ByteArray := prog_10_method_6_code
def yX8_areNodes : MethodName := ⟨RX8, "areNodes", "(II)Z"⟩
abbrev cX8_areTwo : ByteArray := prog_10_method_7_code
def yX8_areTwo : MethodName := ⟨RX8, "areTwo", "(II)Z"⟩
abbrev cX8_isEdge : ByteArray := prog_10_method_8_code
def yX8_isEdge : MethodName := ⟨RX8, "isEdge", "(I)Z"⟩
abbrev cX8_isUsable : ByteArray := prog_10_method_9_code
def yX8_isUsable : MethodName := ⟨RX8, "isUsable", "(I)Z"⟩
abbrev cX8_isChanged : ByteArray := prog_10_method_10_code
def yX8_isChanged : MethodName := ⟨RX8, "isChanged", "()V"⟩
abbrev cX8_begin : ByteArray := prog_10_method_11_code
def yX8_begin : MethodName := ⟨RX8, "begin", "(I)V"⟩
abbrev cX8_addEdge : ByteArray := prog_10_method_12_code
def yX8_addEdge : MethodName := ⟨RX8, "addEdge", "(III)I"⟩
abbrev cX8_setLength : ByteArray := prog_10_method_13_code
def yX8_setLength : MethodName := ⟨RX8, "setLength", "(II)I"⟩
abbrev cX8_toggleEdge : ByteArray := prog_10_method_14_code
def yX8_toggleEdge : MethodName := ⟨RX8, "toggleEdge", "(I)Z"⟩
abbrev cX8_toggleNode : ByteArray := prog_10_method_15_code
def yX8_toggleNode : MethodName := ⟨RX8, "toggleNode", "(I)Z"⟩
abbrev cX8_toggleTurn : ByteArray := prog_10_method_16_code
def yX8_toggleTurn : MethodName := ⟨RX8, "toggleTurn", "(II)Z"⟩
abbrev cX8_nodes : ByteArray := prog_10_method_17_code
def yX8_nodes : MethodName := ⟨RX8, "nodes", "()I"⟩
abbrev cX8_edges : ByteArray := prog_10_method_18_code
def yX8_edges : MethodName := ⟨RX8, "edges", "()I"⟩
abbrev cX8_usableEdges : ByteArray := prog_10_method_19_code
def yX8_usableEdges : MethodName := ⟨RX8, "usableEdges", "()I"⟩
abbrev cX8_shortest : ByteArray := prog_10_method_20_code
def yX8_shortest : MethodName := ⟨RX8, "shortest", "(II)I"⟩
abbrev cX8_distance : ByteArray := prog_10_method_21_code
def yX8_distance : MethodName := ⟨RX8, "distance", "(II)I"⟩
abbrev cX8_goesOn : ByteArray := prog_10_method_22_code
def yX8_goesOn : MethodName := ⟨RX8, "goesOn", "(III)Z"⟩
abbrev cX8_isBehind : ByteArray := prog_10_method_23_code
def yX8_isBehind : MethodName := ⟨RX8, "isBehind", "(I)Z"⟩
abbrev cX8_meets : ByteArray := prog_10_method_24_code
def yX8_meets : MethodName := ⟨RX8, "meets", "(II)V"⟩
abbrev cX8_goesAlong : ByteArray := prog_10_method_25_code
def yX8_goesAlong : MethodName := ⟨RX8, "goesAlong", "(IIIZ)I"⟩
abbrev cX8_startPaths : ByteArray := prog_10_method_26_code
def yX8_startPaths : MethodName := ⟨RX8, "startPaths", "(II)V"⟩
abbrev cX8_nextPath : ByteArray := prog_10_method_27_code
def yX8_nextPath : MethodName := ⟨RX8, "nextPath", "()I"⟩
abbrev cX8_pathsDrawn : ByteArray := prog_10_method_28_code
def yX8_pathsDrawn : MethodName := ⟨RX8, "pathsDrawn", "()I"⟩
abbrev cX8_pathEdges : ByteArray := prog_10_method_29_code
def yX8_pathEdges : MethodName := ⟨RX8, "pathEdges", "()I"⟩
abbrev cX8_pathEdge : ByteArray := prog_10_method_30_code
def yX8_pathEdge : MethodName := ⟨RX8, "pathEdge", "(I)I"⟩
abbrev cX8_countPaths : ByteArray := prog_10_method_31_code
def yX8_countPaths : MethodName := ⟨RX8, "countPaths", "(III)I"⟩
abbrev cX8_waitsAt : ByteArray := prog_10_method_32_code
def yX8_waitsAt : MethodName := ⟨RX8, "waitsAt", "(II)V"⟩
abbrev cX8_laysFirsts : ByteArray := prog_10_method_33_code
def yX8_laysFirsts : MethodName := ⟨RX8, "laysFirsts", "(I)V"⟩
abbrev cX8_alike : ByteArray := prog_10_method_34_code
def yX8_alike : MethodName := ⟨RX8, "alike", "(II)I"⟩
abbrev cX8_startWalks : ByteArray := prog_10_method_35_code
def yX8_startWalks : MethodName := ⟨RX8, "startWalks", "(II)V"⟩
abbrev cX8_laysWalk : ByteArray := prog_10_method_36_code
def yX8_laysWalk : MethodName := ⟨RX8, "laysWalk", "(II)V"⟩
abbrev cX8_leads : ByteArray := prog_10_method_37_code
def yX8_leads : MethodName := ⟨RX8, "leads", "(III)I"⟩
abbrev cX8_nextWalk : ByteArray := prog_10_method_38_code
def yX8_nextWalk : MethodName := ⟨RX8, "nextWalk", "()I"⟩
abbrev cX8_walksDrawn : ByteArray := prog_10_method_39_code
def yX8_walksDrawn : MethodName := ⟨RX8, "walksDrawn", "()I"⟩
abbrev cX8_walkEdges : ByteArray := prog_10_method_40_code
def yX8_walkEdges : MethodName := ⟨RX8, "walkEdges", "()I"⟩
abbrev cX8_walkEdge : ByteArray := prog_10_method_41_code
def yX8_walkEdge : MethodName := ⟨RX8, "walkEdge", "(I)I"⟩
abbrev cX8_arc : ByteArray := prog_10_method_42_code
def yX8_arc : MethodName := ⟨RX8, "arc", "(III)V"⟩
abbrev cX8_laysArcs : ByteArray := prog_10_method_43_code
def yX8_laysArcs : MethodName := ⟨RX8, "laysArcs", "(IIZ)V"⟩
abbrev cX8_flows : ByteArray := prog_10_method_44_code
def yX8_flows : MethodName := ⟨RX8, "flows", "(II)I"⟩
abbrev cX8_many : ByteArray := prog_10_method_45_code
def yX8_many : MethodName := ⟨RX8, "many", "(IIZ)I"⟩
abbrev cX8_disjointPaths : ByteArray := prog_10_method_46_code
def yX8_disjointPaths : MethodName := ⟨RX8, "disjointPaths", "(IIZ)I"⟩
abbrev cX8_together : ByteArray := prog_10_method_47_code
def yX8_together : MethodName := ⟨RX8, "together", "(IIIZ)I"⟩
abbrev cX8_disjointLength : ByteArray := prog_10_method_48_code
def yX8_disjointLength : MethodName := ⟨RX8, "disjointLength", "(IIIZ)I"⟩
abbrev cX8_mayFollow : ByteArray := prog_10_method_49_code
def yX8_mayFollow : MethodName := ⟨RX8, "mayFollow", "(II)Z"⟩
abbrev cX8_laysRests : ByteArray := prog_10_method_50_code
def yX8_laysRests : MethodName := ⟨RX8, "laysRests", "(I)V"⟩
abbrev cX8_laysAllowed : ByteArray := prog_10_method_51_code
def yX8_laysAllowed : MethodName := ⟨RX8, "laysAllowed", "(II)I"⟩
abbrev cX8_nextOf : ByteArray := prog_10_method_52_code
def yX8_nextOf : MethodName := ⟨RX8, "nextOf", "(I)I"⟩
abbrev cX8_errorOfAllowed : ByteArray := prog_10_method_53_code
def yX8_errorOfAllowed : MethodName := ⟨RX8, "errorOfAllowed", "(II)I"⟩
abbrev cX8_allowedLength : ByteArray := prog_10_method_54_code
def yX8_allowedLength : MethodName := ⟨RX8, "allowedLength", "(II)I"⟩
abbrev cX8_allowedEdges : ByteArray := prog_10_method_55_code
def yX8_allowedEdges : MethodName := ⟨RX8, "allowedEdges", "(II)I"⟩
abbrev cX8_allowedEdge : ByteArray := prog_10_method_56_code
def yX8_allowedEdge : MethodName := ⟨RX8, "allowedEdge", "(III)I"⟩
def RJx145de : String := "java/io/Serializable"
def TJx145de : u_T := fun k => match k with
  | _ => ("", "", "", false)
def tyJx145de : Nat → FieldType := fun k => match k with
  | _ => .int
def RJ9 : String := "java/lang/Math"
def TJ9 : u_T := fun k => match k with
  | _ => ("", "", "", false)
def tyJ9 : Nat → FieldType := fun k => match k with
  | _ => .int
abbrev cJ9_min_7cf53 : ByteArray := prog_15_method_69_code
def yJ9_min_7cf53 : MethodName := ⟨RJ9, "min", "(II)I"⟩
def RJ0 : String := "java/lang/String"
def TJ0 : u_T := fun k => match k with
  | _ => ("", "", "", false)
def tyJ0 : Nat → FieldType := fun k => match k with
  | _ => .int
def RJ7 : String := "java/util/Arrays"
def TJ7 : u_T := fun k => match k with
  | _ => ("", "", "", false)
def tyJ7 : Nat → FieldType := fun k => match k with
  | _ => .int
abbrev cJ7_fill_53178 : ByteArray := prog_19_method_103_code
def yJ7_fill_53178 : MethodName := ⟨RJ7, "fill", "([II)V"⟩
def RL : String := "PathparadeLaw"
abbrev cL_begin : ByteArray := method_3_code
def yL_begin : MethodName := ⟨RL, "begin", "(LPathparade;I)I"⟩
abbrev cL_addEdge : ByteArray := method_4_code
def yL_addEdge : MethodName := ⟨RL, "addEdge", "(LPathparade;III[J)I"⟩
abbrev cL_setLength : ByteArray := method_5_code
def yL_setLength : MethodName := ⟨RL, "setLength", "(LPathparade;II[J)I"⟩
abbrev cL_toggleEdge : ByteArray := method_6_code
def yL_toggleEdge : MethodName := ⟨RL, "toggleEdge", "(LPathparade;I[J)I"⟩
abbrev cL_toggleNode : ByteArray := method_7_code
def yL_toggleNode : MethodName := ⟨RL, "toggleNode", "(LPathparade;I[J)I"⟩
abbrev cL_toggleTurn : ByteArray := method_8_code
def yL_toggleTurn : MethodName := ⟨RL, "toggleTurn", "(LPathparade;II[J)I"⟩
abbrev cL_distance : ByteArray := method_9_code
def yL_distance : MethodName := ⟨RL, "distance", "(LPathparade;II[J)I"⟩
abbrev cL_startPaths : ByteArray := method_10_code
def yL_startPaths : MethodName := ⟨RL, "startPaths", "(LPathparade;II)I"⟩
abbrev cL_nextPath : ByteArray := method_11_code
def yL_nextPath : MethodName := ⟨RL, "nextPath", "(LPathparade;[J)I"⟩
abbrev cL_pathsDrawn : ByteArray := method_12_code
def yL_pathsDrawn : MethodName := ⟨RL, "pathsDrawn", "(LPathparade;[J)I"⟩
abbrev cL_pathEdges : ByteArray := method_13_code
def yL_pathEdges : MethodName := ⟨RL, "pathEdges", "(LPathparade;[J)I"⟩
abbrev cL_pathEdge : ByteArray := method_14_code
def yL_pathEdge : MethodName := ⟨RL, "pathEdge", "(LPathparade;I[J)I"⟩
abbrev cL_countPaths : ByteArray := method_15_code
def yL_countPaths : MethodName := ⟨RL, "countPaths", "(LPathparade;III[J)I"⟩
abbrev cL_startWalks : ByteArray := method_16_code
def yL_startWalks : MethodName := ⟨RL, "startWalks", "(LPathparade;II)I"⟩
abbrev cL_nextWalk : ByteArray := method_17_code
def yL_nextWalk : MethodName := ⟨RL, "nextWalk", "(LPathparade;[J)I"⟩
abbrev cL_walksDrawn : ByteArray := method_18_code
def yL_walksDrawn : MethodName := ⟨RL, "walksDrawn", "(LPathparade;[J)I"⟩
abbrev cL_walkEdges : ByteArray := method_19_code
def yL_walkEdges : MethodName := ⟨RL, "walkEdges", "(LPathparade;[J)I"⟩
abbrev cL_walkEdge : ByteArray := method_20_code
def yL_walkEdge : MethodName := ⟨RL, "walkEdge", "(LPathparade;I[J)I"⟩
abbrev cL_disjointPaths : ByteArray := method_21_code
def yL_disjointPaths : MethodName := ⟨RL, "disjointPaths", "(LPathparade;IIZ[J)I"⟩
abbrev cL_disjointLength : ByteArray := method_22_code
def yL_disjointLength : MethodName := ⟨RL, "disjointLength", "(LPathparade;IIIZ[J)I"⟩
abbrev cL_allowedLength : ByteArray := method_23_code
def yL_allowedLength : MethodName := ⟨RL, "allowedLength", "(LPathparade;II[J)I"⟩
abbrev cL_allowedEdges : ByteArray := method_24_code
def yL_allowedEdges : MethodName := ⟨RL, "allowedEdges", "(LPathparade;II[J)I"⟩
abbrev cL_allowedEdge : ByteArray := method_25_code
def yL_allowedEdge : MethodName := ⟨RL, "allowedEdge", "(LPathparade;III[J)I"⟩
abbrev cL_law : ByteArray := code
def yL_law : MethodName := ⟨RL, "law", "([I)Z"⟩
theorem dX0_init_0 : decode cX0_init 0 = .ok (.aload_n 0, 1) := by decide +kernel
theorem dX0_init_1 : decode cX0_init 1 = .ok (.invokespecial 3, 3) := by decide +kernel
theorem dX0_init_4 : decode cX0_init 4 = .ok (.aload_n 0, 1) := by decide +kernel
theorem dX0_init_5 : decode cX0_init 5 = .ok (.bipush 24, 2) := by decide +kernel
theorem dX0_init_7 : decode cX0_init 7 = .ok (.newarray .int, 2) := by decide +kernel
theorem dX0_init_9 : decode cX0_init 9 = .ok (.putfield 9, 3) := by decide +kernel
theorem dX0_init_12 : decode cX0_init 12 = .ok (.aload_n 0, 1) := by decide +kernel
theorem dX0_init_13 : decode cX0_init 13 = .ok (.bipush 24, 2) := by decide +kernel
theorem dX0_init_15 : decode cX0_init 15 = .ok (.newarray .int, 2) := by decide +kernel
theorem dX0_init_17 : decode cX0_init 17 = .ok (.putfield 15, 3) := by decide +kernel
theorem dX0_init_20 : decode cX0_init 20 = .ok (.aload_n 0, 1) := by decide +kernel
theorem dX0_init_21 : decode cX0_init 21 = .ok (.aload_n 1, 1) := by decide +kernel
theorem dX0_init_22 : decode cX0_init 22 = .ok (.putfield 18, 3) := by decide +kernel
theorem dX0_init_25 : decode cX0_init 25 = .ok (.return_, 1) := by decide +kernel
theorem dX0_find_0 : decode cX0_find 0 = .ok (.aload_n 0, 1) := by decide +kernel
theorem dX0_find_1 : decode cX0_find 1 = .ok (.iconst 0, 1) := by decide +kernel
theorem dX0_find_2 : decode cX0_find 2 = .ok (.putfield 22, 3) := by decide +kernel
theorem dX0_find_5 : decode cX0_find 5 = .ok (.iload_n 1, 1) := by decide +kernel
theorem dX0_find_6 : decode cX0_find 6 = .ok (.iload_n 2, 1) := by decide +kernel
theorem dX0_find_7 : decode cX0_find 7 = .ok (.if_icmp .ne 5, 3) := by decide +kernel
theorem dX0_find_10 : decode cX0_find 10 = .ok (.iconst 0, 1) := by decide +kernel
theorem dX0_find_11 : decode cX0_find 11 = .ok (.ireturn, 1) := by decide +kernel
theorem dX0_find_12 : decode cX0_find 12 = .ok (.aload_n 0, 1) := by decide +kernel
theorem dX0_find_13 : decode cX0_find 13 = .ok (.iload_n 2, 1) := by decide +kernel
theorem dX0_find_14 : decode cX0_find 14 = .ok (.invokevirtual 26, 3) := by decide +kernel
theorem dX0_find_17 : decode cX0_find 17 = .ok (.aload_n 0, 1) := by decide +kernel
theorem dX0_find_18 : decode cX0_find 18 = .ok (.iconst (-1), 1) := by decide +kernel
theorem dX0_find_19 : decode cX0_find 19 = .ok (.iload_n 1, 1) := by decide +kernel
theorem dX0_find_20 : decode cX0_find 20 = .ok (.invokevirtual 30, 3) := by decide +kernel
theorem dX0_find_23 : decode cX0_find 23 = .ok (.istore_n 3, 1) := by decide +kernel
theorem dX0_find_24 : decode cX0_find 24 = .ok (.aload_n 0, 1) := by decide +kernel
theorem dX0_find_25 : decode cX0_find 25 = .ok (.iload_n 3, 1) := by decide +kernel
theorem dX0_find_26 : decode cX0_find 26 = .ok (.invokevirtual 34, 3) := by decide +kernel
theorem dX0_find_29 : decode cX0_find 29 = .ok (.istore 4, 2) := by decide +kernel
theorem dX0_find_31 : decode cX0_find 31 = .ok (.iload_n 3, 1) := by decide +kernel
theorem dX0_find_32 : decode cX0_find 32 = .ok (.iconst (-1), 1) := by decide +kernel
theorem dX0_find_33 : decode cX0_find 33 = .ok (.if_icmp .eq 65, 3) := by decide +kernel
theorem dX0_find_36 : decode cX0_find 36 = .ok (.aload_n 0, 1) := by decide +kernel
theorem dX0_find_37 : decode cX0_find 37 = .ok (.getfield 22, 3) := by decide +kernel
theorem dX0_find_40 : decode cX0_find 40 = .ok (.bipush 24, 2) := by decide +kernel
theorem dX0_find_42 : decode cX0_find 42 = .ok (.if_icmp .ge 56, 3) := by decide +kernel
theorem dX0_find_45 : decode cX0_find 45 = .ok (.aload_n 0, 1) := by decide +kernel
theorem dX0_find_46 : decode cX0_find 46 = .ok (.getfield 15, 3) := by decide +kernel
theorem dX0_find_49 : decode cX0_find 49 = .ok (.aload_n 0, 1) := by decide +kernel
theorem dX0_find_50 : decode cX0_find 50 = .ok (.getfield 22, 3) := by decide +kernel
theorem dX0_find_53 : decode cX0_find 53 = .ok (.iload_n 3, 1) := by decide +kernel
theorem dX0_find_54 : decode cX0_find 54 = .ok (.invokestatic 38, 3) := by decide +kernel
theorem dX0_find_57 : decode cX0_find 57 = .ok (.aload_n 0, 1) := by decide +kernel
theorem dX0_find_58 : decode cX0_find 58 = .ok (.dup, 1) := by decide +kernel
theorem dX0_find_59 : decode cX0_find 59 = .ok (.getfield 22, 3) := by decide +kernel
theorem dX0_find_62 : decode cX0_find 62 = .ok (.iconst 1, 1) := by decide +kernel
theorem dX0_find_63 : decode cX0_find 63 = .ok (.iadd, 1) := by decide +kernel
theorem dX0_find_64 : decode cX0_find 64 = .ok (.putfield 22, 3) := by decide +kernel
theorem dX0_find_67 : decode cX0_find 67 = .ok (.aload_n 0, 1) := by decide +kernel
theorem dX0_find_68 : decode cX0_find 68 = .ok (.getfield 18, 3) := by decide +kernel
theorem dX0_find_71 : decode cX0_find 71 = .ok (.iload_n 3, 1) := by decide +kernel
theorem dX0_find_72 : decode cX0_find 72 = .ok (.invokevirtual 42, 3) := by decide +kernel
theorem dX0_find_75 : decode cX0_find 75 = .ok (.istore 5, 2) := by decide +kernel
theorem dX0_find_77 : decode cX0_find 77 = .ok (.iload 5, 2) := by decide +kernel
theorem dX0_find_79 : decode cX0_find 79 = .ok (.iload_n 2, 1) := by decide +kernel
theorem dX0_find_80 : decode cX0_find 80 = .ok (.if_icmp .ne 7, 3) := by decide +kernel
theorem dX0_find_83 : decode cX0_find 83 = .ok (.iconst (-1), 1) := by decide +kernel
theorem dX0_find_84 : decode cX0_find 84 = .ok (.goto 10, 3) := by decide +kernel
theorem dX0_find_87 : decode cX0_find 87 = .ok (.aload_n 0, 1) := by decide +kernel
theorem dX0_find_88 : decode cX0_find 88 = .ok (.iload_n 3, 1) := by decide +kernel
theorem dX0_find_89 : decode cX0_find 89 = .ok (.iload 5, 2) := by decide +kernel
theorem dX0_find_91 : decode cX0_find 91 = .ok (.invokevirtual 30, 3) := by decide +kernel
theorem dX0_find_94 : decode cX0_find 94 = .ok (.istore_n 3, 1) := by decide +kernel
theorem dX0_find_95 : decode cX0_find 95 = .ok (.goto (-64), 3) := by decide +kernel
theorem dX0_find_98 : decode cX0_find 98 = .ok (.iload 4, 2) := by decide +kernel
theorem dX0_find_100 : decode cX0_find 100 = .ok (.ireturn, 1) := by decide +kernel
theorem dX0_measureTo_0 : decode cX0_measureTo 0 = .ok (.aload_n 0, 1) := by decide +kernel
theorem dX0_measureTo_1 : decode cX0_measureTo 1 = .ok (.getfield 9, 3) := by decide +kernel
theorem dX0_measureTo_4 : decode cX0_measureTo 4 = .ok (.ldc 47, 2) := by decide +kernel
theorem dX0_measureTo_6 : decode cX0_measureTo 6 = .ok (.invokestatic 48, 3) := by decide +kernel
theorem dX0_measureTo_9 : decode cX0_measureTo 9 = .ok (.iconst 1, 1) := by decide +kernel
theorem dX0_measureTo_10 : decode cX0_measureTo 10 = .ok (.istore_n 2, 1) := by decide +kernel
theorem dX0_measureTo_11 : decode cX0_measureTo 11 = .ok (.iconst 0, 1) := by decide +kernel
theorem dX0_measureTo_12 : decode cX0_measureTo 12 = .ok (.istore_n 3, 1) := by decide +kernel
theorem dX0_measureTo_13 : decode cX0_measureTo 13 = .ok (.iload_n 3, 1) := by decide +kernel
theorem dX0_measureTo_14 : decode cX0_measureTo 14 = .ok (.bipush 24, 2) := by decide +kernel
theorem dX0_measureTo_16 : decode cX0_measureTo 16 = .ok (.if_icmp .ge 19, 3) := by decide +kernel
theorem dX0_measureTo_19 : decode cX0_measureTo 19 = .ok (.iload_n 2, 1) := by decide +kernel
theorem dX0_measureTo_20 : decode cX0_measureTo 20 = .ok (.ifCond .eq 15, 3) := by decide +kernel
theorem dX0_measureTo_23 : decode cX0_measureTo 23 = .ok (.aload_n 0, 1) := by decide +kernel
theorem dX0_measureTo_24 : decode cX0_measureTo 24 = .ok (.iload_n 1, 1) := by decide +kernel
theorem dX0_measureTo_25 : decode cX0_measureTo 25 = .ok (.invokevirtual 54, 3) := by decide +kernel
theorem dX0_measureTo_28 : decode cX0_measureTo 28 = .ok (.istore_n 2, 1) := by decide +kernel
theorem dX0_measureTo_29 : decode cX0_measureTo 29 = .ok (.iinc 3 1, 3) := by decide +kernel
theorem dX0_measureTo_32 : decode cX0_measureTo 32 = .ok (.goto (-19), 3) := by decide +kernel
theorem dX0_measureTo_35 : decode cX0_measureTo 35 = .ok (.return_, 1) := by decide +kernel
theorem dX0_shortenAll_0 : decode cX0_shortenAll 0 = .ok (.iconst 0, 1) := by decide +kernel
theorem dX0_shortenAll_1 : decode cX0_shortenAll 1 = .ok (.istore_n 2, 1) := by decide +kernel
theorem dX0_shortenAll_2 : decode cX0_shortenAll 2 = .ok (.iconst 0, 1) := by decide +kernel
theorem dX0_shortenAll_3 : decode cX0_shortenAll 3 = .ok (.istore_n 3, 1) := by decide +kernel
theorem dX0_shortenAll_4 : decode cX0_shortenAll 4 = .ok (.iload_n 3, 1) := by decide +kernel
theorem dX0_shortenAll_5 : decode cX0_shortenAll 5 = .ok (.aload_n 0, 1) := by decide +kernel
theorem dX0_shortenAll_6 : decode cX0_shortenAll 6 = .ok (.getfield 18, 3) := by decide +kernel
theorem dX0_shortenAll_9 : decode cX0_shortenAll 9 = .ok (.invokevirtual 58, 3) := by decide +kernel
theorem dX0_shortenAll_12 : decode cX0_shortenAll 12 = .ok (.if_icmp .ge 92, 3) := by decide +kernel
theorem dX0_shortenAll_15 : decode cX0_shortenAll 15 = .ok (.aload_n 0, 1) := by decide +kernel
theorem dX0_shortenAll_16 : decode cX0_shortenAll 16 = .ok (.getfield 18, 3) := by decide +kernel
theorem dX0_shortenAll_19 : decode cX0_shortenAll 19 = .ok (.iload_n 3, 1) := by decide +kernel
theorem dX0_shortenAll_20 : decode cX0_shortenAll 20 = .ok (.invokevirtual 62, 3) := by decide +kernel
theorem dX0_shortenAll_23 : decode cX0_shortenAll 23 = .ok (.istore 4, 2) := by decide +kernel
theorem dX0_shortenAll_25 : decode cX0_shortenAll 25 = .ok (.aload_n 0, 1) := by decide +kernel
theorem dX0_shortenAll_26 : decode cX0_shortenAll 26 = .ok (.getfield 18, 3) := by decide +kernel
theorem dX0_shortenAll_29 : decode cX0_shortenAll 29 = .ok (.iload 4, 2) := by decide +kernel
theorem dX0_shortenAll_31 : decode cX0_shortenAll 31 = .ok (.invokevirtual 42, 3) := by decide +kernel
theorem dX0_shortenAll_34 : decode cX0_shortenAll 34 = .ok (.istore 5, 2) := by decide +kernel
theorem dX0_shortenAll_36 : decode cX0_shortenAll 36 = .ok (.iload 5, 2) := by decide +kernel
theorem dX0_shortenAll_38 : decode cX0_shortenAll 38 = .ok (.iload_n 1, 1) := by decide +kernel
theorem dX0_shortenAll_39 : decode cX0_shortenAll 39 = .ok (.if_icmp .ne 7, 3) := by decide +kernel
theorem dX0_shortenAll_42 : decode cX0_shortenAll 42 = .ok (.iconst 0, 1) := by decide +kernel
theorem dX0_shortenAll_43 : decode cX0_shortenAll 43 = .ok (.goto 15, 3) := by decide +kernel
theorem dX0_shortenAll_46 : decode cX0_shortenAll 46 = .ok (.aload_n 0, 1) := by decide +kernel
theorem dX0_shortenAll_47 : decode cX0_shortenAll 47 = .ok (.aload_n 0, 1) := by decide +kernel
theorem dX0_shortenAll_48 : decode cX0_shortenAll 48 = .ok (.iload 4, 2) := by decide +kernel
theorem dX0_shortenAll_50 : decode cX0_shortenAll 50 = .ok (.iload 5, 2) := by decide +kernel
theorem dX0_shortenAll_52 : decode cX0_shortenAll 52 = .ok (.invokevirtual 30, 3) := by decide +kernel
theorem dX0_shortenAll_55 : decode cX0_shortenAll 55 = .ok (.invokevirtual 34, 3) := by decide +kernel
theorem dX0_shortenAll_58 : decode cX0_shortenAll 58 = .ok (.istore 6, 2) := by decide +kernel
theorem dX0_shortenAll_60 : decode cX0_shortenAll 60 = .ok (.aload_n 0, 1) := by decide +kernel
theorem dX0_shortenAll_61 : decode cX0_shortenAll 61 = .ok (.getfield 18, 3) := by decide +kernel
theorem dX0_shortenAll_64 : decode cX0_shortenAll 64 = .ok (.iload 4, 2) := by decide +kernel
theorem dX0_shortenAll_66 : decode cX0_shortenAll 66 = .ok (.invokevirtual 65, 3) := by decide +kernel
theorem dX0_shortenAll_69 : decode cX0_shortenAll 69 = .ok (.iload 6, 2) := by decide +kernel
theorem dX0_shortenAll_71 : decode cX0_shortenAll 71 = .ok (.iadd, 1) := by decide +kernel
theorem dX0_shortenAll_72 : decode cX0_shortenAll 72 = .ok (.istore 7, 2) := by decide +kernel
theorem dX0_shortenAll_74 : decode cX0_shortenAll 74 = .ok (.iload 7, 2) := by decide +kernel
theorem dX0_shortenAll_76 : decode cX0_shortenAll 76 = .ok (.aload_n 0, 1) := by decide +kernel
theorem dX0_shortenAll_77 : decode cX0_shortenAll 77 = .ok (.iload 4, 2) := by decide +kernel
theorem dX0_shortenAll_79 : decode cX0_shortenAll 79 = .ok (.invokevirtual 34, 3) := by decide +kernel
theorem dX0_shortenAll_82 : decode cX0_shortenAll 82 = .ok (.if_icmp .ge 16, 3) := by decide +kernel
theorem dX0_shortenAll_85 : decode cX0_shortenAll 85 = .ok (.aload_n 0, 1) := by decide +kernel
theorem dX0_shortenAll_86 : decode cX0_shortenAll 86 = .ok (.getfield 9, 3) := by decide +kernel
theorem dX0_shortenAll_89 : decode cX0_shortenAll 89 = .ok (.iload 4, 2) := by decide +kernel
theorem dX0_shortenAll_91 : decode cX0_shortenAll 91 = .ok (.iload 7, 2) := by decide +kernel
theorem dX0_shortenAll_93 : decode cX0_shortenAll 93 = .ok (.invokestatic 38, 3) := by decide +kernel
theorem dX0_shortenAll_96 : decode cX0_shortenAll 96 = .ok (.iconst 1, 1) := by decide +kernel
theorem dX0_shortenAll_97 : decode cX0_shortenAll 97 = .ok (.istore_n 2, 1) := by decide +kernel
theorem dX0_shortenAll_98 : decode cX0_shortenAll 98 = .ok (.iinc 3 1, 3) := by decide +kernel
theorem dX0_shortenAll_101 : decode cX0_shortenAll 101 = .ok (.goto (-97), 3) := by decide +kernel
theorem dX0_shortenAll_104 : decode cX0_shortenAll 104 = .ok (.iload_n 2, 1) := by decide +kernel
theorem dX0_shortenAll_105 : decode cX0_shortenAll 105 = .ok (.ireturn, 1) := by decide +kernel
theorem dX0_lengthFrom_0 : decode cX0_lengthFrom 0 = .ok (.iload_n 1, 1) := by decide +kernel
theorem dX0_lengthFrom_1 : decode cX0_lengthFrom 1 = .ok (.iconst (-1), 1) := by decide +kernel
theorem dX0_lengthFrom_2 : decode cX0_lengthFrom 2 = .ok (.if_icmp .ne 8, 3) := by decide +kernel
theorem dX0_lengthFrom_5 : decode cX0_lengthFrom 5 = .ok (.ldc 47, 2) := by decide +kernel
theorem dX0_lengthFrom_7 : decode cX0_lengthFrom 7 = .ok (.goto 11, 3) := by decide +kernel
theorem dX0_lengthFrom_10 : decode cX0_lengthFrom 10 = .ok (.aload_n 0, 1) := by decide +kernel
theorem dX0_lengthFrom_11 : decode cX0_lengthFrom 11 = .ok (.getfield 9, 3) := by decide +kernel
theorem dX0_lengthFrom_14 : decode cX0_lengthFrom 14 = .ok (.iload_n 1, 1) := by decide +kernel
theorem dX0_lengthFrom_15 : decode cX0_lengthFrom 15 = .ok (.invokestatic 68, 3) := by decide +kernel
theorem dX0_lengthFrom_18 : decode cX0_lengthFrom 18 = .ok (.ireturn, 1) := by decide +kernel
theorem dX0_bestAfter_0 : decode cX0_bestAfter 0 = .ok (.iconst (-1), 1) := by decide +kernel
theorem dX0_bestAfter_1 : decode cX0_bestAfter 1 = .ok (.istore_n 3, 1) := by decide +kernel
theorem dX0_bestAfter_2 : decode cX0_bestAfter 2 = .ok (.ldc 47, 2) := by decide +kernel
theorem dX0_bestAfter_4 : decode cX0_bestAfter 4 = .ok (.istore 4, 2) := by decide +kernel
theorem dX0_bestAfter_6 : decode cX0_bestAfter 6 = .ok (.aload_n 0, 1) := by decide +kernel
theorem dX0_bestAfter_7 : decode cX0_bestAfter 7 = .ok (.getfield 18, 3) := by decide +kernel
theorem dX0_bestAfter_10 : decode cX0_bestAfter 10 = .ok (.iload_n 2, 1) := by decide +kernel
theorem dX0_bestAfter_11 : decode cX0_bestAfter 11 = .ok (.invokevirtual 72, 3) := by decide +kernel
theorem dX0_bestAfter_14 : decode cX0_bestAfter 14 = .ok (.istore 5, 2) := by decide +kernel
theorem dX0_bestAfter_16 : decode cX0_bestAfter 16 = .ok (.iload 5, 2) := by decide +kernel
theorem dX0_bestAfter_18 : decode cX0_bestAfter 18 = .ok (.aload_n 0, 1) := by decide +kernel
theorem dX0_bestAfter_19 : decode cX0_bestAfter 19 = .ok (.getfield 18, 3) := by decide +kernel
theorem dX0_bestAfter_22 : decode cX0_bestAfter 22 = .ok (.iload_n 2, 1) := by decide +kernel
theorem dX0_bestAfter_23 : decode cX0_bestAfter 23 = .ok (.invokevirtual 75, 3) := by decide +kernel
theorem dX0_bestAfter_26 : decode cX0_bestAfter 26 = .ok (.if_icmp .ge 72, 3) := by decide +kernel
theorem dX0_bestAfter_29 : decode cX0_bestAfter 29 = .ok (.aload_n 0, 1) := by decide +kernel
theorem dX0_bestAfter_30 : decode cX0_bestAfter 30 = .ok (.getfield 18, 3) := by decide +kernel
theorem dX0_bestAfter_33 : decode cX0_bestAfter 33 = .ok (.iload 5, 2) := by decide +kernel
theorem dX0_bestAfter_35 : decode cX0_bestAfter 35 = .ok (.invokevirtual 62, 3) := by decide +kernel
theorem dX0_bestAfter_38 : decode cX0_bestAfter 38 = .ok (.istore 6, 2) := by decide +kernel
theorem dX0_bestAfter_40 : decode cX0_bestAfter 40 = .ok (.iload_n 1, 1) := by decide +kernel
theorem dX0_bestAfter_41 : decode cX0_bestAfter 41 = .ok (.iconst (-1), 1) := by decide +kernel
theorem dX0_bestAfter_42 : decode cX0_bestAfter 42 = .ok (.if_icmp .eq 20, 3) := by decide +kernel
theorem dX0_bestAfter_45 : decode cX0_bestAfter 45 = .ok (.aload_n 0, 1) := by decide +kernel
theorem dX0_bestAfter_46 : decode cX0_bestAfter 46 = .ok (.getfield 18, 3) := by decide +kernel
theorem dX0_bestAfter_49 : decode cX0_bestAfter 49 = .ok (.iload_n 1, 1) := by decide +kernel
theorem dX0_bestAfter_50 : decode cX0_bestAfter 50 = .ok (.iload 6, 2) := by decide +kernel
theorem dX0_bestAfter_52 : decode cX0_bestAfter 52 = .ok (.invokevirtual 78, 3) := by decide +kernel
theorem dX0_bestAfter_55 : decode cX0_bestAfter 55 = .ok (.ifCond .eq 7, 3) := by decide +kernel
theorem dX0_bestAfter_58 : decode cX0_bestAfter 58 = .ok (.iconst 1, 1) := by decide +kernel
theorem dX0_bestAfter_59 : decode cX0_bestAfter 59 = .ok (.goto 4, 3) := by decide +kernel
theorem dX0_bestAfter_62 : decode cX0_bestAfter 62 = .ok (.iconst 0, 1) := by decide +kernel
theorem dX0_bestAfter_63 : decode cX0_bestAfter 63 = .ok (.istore 7, 2) := by decide +kernel
theorem dX0_bestAfter_65 : decode cX0_bestAfter 65 = .ok (.iload 7, 2) := by decide +kernel
theorem dX0_bestAfter_67 : decode cX0_bestAfter 67 = .ok (.ifCond .ne 25, 3) := by decide +kernel
theorem dX0_bestAfter_70 : decode cX0_bestAfter 70 = .ok (.aload_n 0, 1) := by decide +kernel
theorem dX0_bestAfter_71 : decode cX0_bestAfter 71 = .ok (.iload 6, 2) := by decide +kernel
theorem dX0_bestAfter_73 : decode cX0_bestAfter 73 = .ok (.invokevirtual 34, 3) := by decide +kernel
theorem dX0_bestAfter_76 : decode cX0_bestAfter 76 = .ok (.iload 4, 2) := by decide +kernel
theorem dX0_bestAfter_78 : decode cX0_bestAfter 78 = .ok (.if_icmp .ge 14, 3) := by decide +kernel
theorem dX0_bestAfter_81 : decode cX0_bestAfter 81 = .ok (.aload_n 0, 1) := by decide +kernel
theorem dX0_bestAfter_82 : decode cX0_bestAfter 82 = .ok (.iload 6, 2) := by decide +kernel
theorem dX0_bestAfter_84 : decode cX0_bestAfter 84 = .ok (.invokevirtual 34, 3) := by decide +kernel
theorem dX0_bestAfter_87 : decode cX0_bestAfter 87 = .ok (.istore 4, 2) := by decide +kernel
theorem dX0_bestAfter_89 : decode cX0_bestAfter 89 = .ok (.iload 6, 2) := by decide +kernel
theorem dX0_bestAfter_91 : decode cX0_bestAfter 91 = .ok (.istore_n 3, 1) := by decide +kernel
theorem dX0_bestAfter_92 : decode cX0_bestAfter 92 = .ok (.iinc 5 1, 3) := by decide +kernel
theorem dX0_bestAfter_95 : decode cX0_bestAfter 95 = .ok (.goto (-79), 3) := by decide +kernel
theorem dX0_bestAfter_98 : decode cX0_bestAfter 98 = .ok (.iload_n 3, 1) := by decide +kernel
theorem dX0_bestAfter_99 : decode cX0_bestAfter 99 = .ok (.ireturn, 1) := by decide +kernel
theorem dX0_foundSize_0 : decode cX0_foundSize 0 = .ok (.aload_n 0, 1) := by decide +kernel
theorem dX0_foundSize_1 : decode cX0_foundSize 1 = .ok (.getfield 22, 3) := by decide +kernel
theorem dX0_foundSize_4 : decode cX0_foundSize 4 = .ok (.ireturn, 1) := by decide +kernel
theorem dX0_foundEdge_0 : decode cX0_foundEdge 0 = .ok (.iload_n 1, 1) := by decide +kernel
theorem dX0_foundEdge_1 : decode cX0_foundEdge 1 = .ok (.ifCond .lt 22, 3) := by decide +kernel
theorem dX0_foundEdge_4 : decode cX0_foundEdge 4 = .ok (.iload_n 1, 1) := by decide +kernel
theorem dX0_foundEdge_5 : decode cX0_foundEdge 5 = .ok (.aload_n 0, 1) := by decide +kernel
theorem dX0_foundEdge_6 : decode cX0_foundEdge 6 = .ok (.getfield 22, 3) := by decide +kernel
theorem dX0_foundEdge_9 : decode cX0_foundEdge 9 = .ok (.if_icmp .ge 14, 3) := by decide +kernel
theorem dX0_foundEdge_12 : decode cX0_foundEdge 12 = .ok (.aload_n 0, 1) := by decide +kernel
theorem dX0_foundEdge_13 : decode cX0_foundEdge 13 = .ok (.getfield 15, 3) := by decide +kernel
theorem dX0_foundEdge_16 : decode cX0_foundEdge 16 = .ok (.iload_n 1, 1) := by decide +kernel
theorem dX0_foundEdge_17 : decode cX0_foundEdge 17 = .ok (.invokestatic 68, 3) := by decide +kernel
theorem dX0_foundEdge_20 : decode cX0_foundEdge 20 = .ok (.goto 4, 3) := by decide +kernel
theorem dX0_foundEdge_23 : decode cX0_foundEdge 23 = .ok (.iconst (-1), 1) := by decide +kernel
theorem dX0_foundEdge_24 : decode cX0_foundEdge 24 = .ok (.ireturn, 1) := by decide +kernel
theorem dX1_init_0 : decode cX1_init 0 = .ok (.aload_n 0, 1) := by decide +kernel
theorem dX1_init_1 : decode cX1_init 1 = .ok (.invokespecial 3, 3) := by decide +kernel
theorem dX1_init_4 : decode cX1_init 4 = .ok (.aload_n 0, 1) := by decide +kernel
theorem dX1_init_5 : decode cX1_init 5 = .ok (.bipush 34, 2) := by decide +kernel
theorem dX1_init_7 : decode cX1_init 7 = .ok (.newarray .int, 2) := by decide +kernel
theorem dX1_init_9 : decode cX1_init 9 = .ok (.putfield 11, 3) := by decide +kernel
theorem dX1_init_12 : decode cX1_init 12 = .ok (.aload_n 0, 1) := by decide +kernel
theorem dX1_init_13 : decode cX1_init 13 = .ok (.bipush 34, 2) := by decide +kernel
theorem dX1_init_15 : decode cX1_init 15 = .ok (.newarray .int, 2) := by decide +kernel
theorem dX1_init_17 : decode cX1_init 17 = .ok (.putfield 15, 3) := by decide +kernel
theorem dX1_init_20 : decode cX1_init 20 = .ok (.aload_n 0, 1) := by decide +kernel
theorem dX1_init_21 : decode cX1_init 21 = .ok (.bipush 34, 2) := by decide +kernel
theorem dX1_init_23 : decode cX1_init 23 = .ok (.newarray .int, 2) := by decide +kernel
theorem dX1_init_25 : decode cX1_init 25 = .ok (.putfield 18, 3) := by decide +kernel
theorem dX1_init_28 : decode cX1_init 28 = .ok (.aload_n 0, 1) := by decide +kernel
theorem dX1_init_29 : decode cX1_init 29 = .ok (.bipush 34, 2) := by decide +kernel
theorem dX1_init_31 : decode cX1_init 31 = .ok (.newarray .int, 2) := by decide +kernel
theorem dX1_init_33 : decode cX1_init 33 = .ok (.putfield 21, 3) := by decide +kernel
theorem dX1_init_36 : decode cX1_init 36 = .ok (.aload_n 0, 1) := by decide +kernel
theorem dX1_init_37 : decode cX1_init 37 = .ok (.bipush 34, 2) := by decide +kernel
theorem dX1_init_39 : decode cX1_init 39 = .ok (.newarray .int, 2) := by decide +kernel
theorem dX1_init_41 : decode cX1_init 41 = .ok (.putfield 24, 3) := by decide +kernel
theorem dX1_init_44 : decode cX1_init 44 = .ok (.aload_n 0, 1) := by decide +kernel
theorem dX1_init_45 : decode cX1_init 45 = .ok (.bipush 20, 2) := by decide +kernel
theorem dX1_init_47 : decode cX1_init 47 = .ok (.newarray .int, 2) := by decide +kernel
theorem dX1_init_49 : decode cX1_init 49 = .ok (.putfield 27, 3) := by decide +kernel
theorem dX1_init_52 : decode cX1_init 52 = .ok (.aload_n 0, 1) := by decide +kernel
theorem dX1_init_53 : decode cX1_init 53 = .ok (.bipush 20, 2) := by decide +kernel
theorem dX1_init_55 : decode cX1_init 55 = .ok (.newarray .int, 2) := by decide +kernel
theorem dX1_init_57 : decode cX1_init 57 = .ok (.putfield 30, 3) := by decide +kernel
theorem dX1_init_60 : decode cX1_init 60 = .ok (.aload_n 0, 1) := by decide +kernel
theorem dX1_init_61 : decode cX1_init 61 = .ok (.aload_n 1, 1) := by decide +kernel
theorem dX1_init_62 : decode cX1_init 62 = .ok (.putfield 33, 3) := by decide +kernel
theorem dX1_init_65 : decode cX1_init 65 = .ok (.return_, 1) := by decide +kernel
theorem dX1_pathTotal_0 : decode cX1_pathTotal 0 = .ok (.aload_n 0, 1) := by decide +kernel
theorem dX1_pathTotal_1 : decode cX1_pathTotal 1 = .ok (.iload_n 1, 1) := by decide +kernel
theorem dX1_pathTotal_2 : decode cX1_pathTotal 2 = .ok (.iload_n 2, 1) := by decide +kernel
theorem dX1_pathTotal_3 : decode cX1_pathTotal 3 = .ok (.iload_n 3, 1) := by decide +kernel
theorem dX1_pathTotal_4 : decode cX1_pathTotal 4 = .ok (.invokevirtual 37, 3) := by decide +kernel
theorem dX1_pathTotal_7 : decode cX1_pathTotal 7 = .ok (.iconst 0, 1) := by decide +kernel
theorem dX1_pathTotal_8 : decode cX1_pathTotal 8 = .ok (.istore 4, 2) := by decide +kernel
theorem dX1_pathTotal_10 : decode cX1_pathTotal 10 = .ok (.iload 4, 2) := by decide +kernel
theorem dX1_pathTotal_12 : decode cX1_pathTotal 12 = .ok (.bipush 24, 2) := by decide +kernel
theorem dX1_pathTotal_14 : decode cX1_pathTotal 14 = .ok (.if_icmp .ge 18, 3) := by decide +kernel
theorem dX1_pathTotal_17 : decode cX1_pathTotal 17 = .ok (.aload_n 0, 1) := by decide +kernel
theorem dX1_pathTotal_18 : decode cX1_pathTotal 18 = .ok (.invokevirtual 41, 3) := by decide +kernel
theorem dX1_pathTotal_21 : decode cX1_pathTotal 21 = .ok (.ldc 45, 2) := by decide +kernel
theorem dX1_pathTotal_23 : decode cX1_pathTotal 23 = .ok (.if_icmp .ge 9, 3) := by decide +kernel
theorem dX1_pathTotal_26 : decode cX1_pathTotal 26 = .ok (.iinc 4 1, 3) := by decide +kernel
theorem dX1_pathTotal_29 : decode cX1_pathTotal 29 = .ok (.goto (-19), 3) := by decide +kernel
theorem dX1_pathTotal_32 : decode cX1_pathTotal 32 = .ok (.iload 4, 2) := by decide +kernel
theorem dX1_pathTotal_34 : decode cX1_pathTotal 34 = .ok (.ireturn, 1) := by decide +kernel
theorem dX1_leastLength_0 : decode cX1_leastLength 0 = .ok (.aload_n 0, 1) := by decide +kernel
theorem dX1_leastLength_1 : decode cX1_leastLength 1 = .ok (.iload_n 1, 1) := by decide +kernel
theorem dX1_leastLength_2 : decode cX1_leastLength 2 = .ok (.iload_n 2, 1) := by decide +kernel
theorem dX1_leastLength_3 : decode cX1_leastLength 3 = .ok (.iload 4, 2) := by decide +kernel
theorem dX1_leastLength_5 : decode cX1_leastLength 5 = .ok (.invokevirtual 37, 3) := by decide +kernel
theorem dX1_leastLength_8 : decode cX1_leastLength 8 = .ok (.iconst 0, 1) := by decide +kernel
theorem dX1_leastLength_9 : decode cX1_leastLength 9 = .ok (.istore 5, 2) := by decide +kernel
theorem dX1_leastLength_11 : decode cX1_leastLength 11 = .ok (.iconst 0, 1) := by decide +kernel
theorem dX1_leastLength_12 : decode cX1_leastLength 12 = .ok (.istore 6, 2) := by decide +kernel
theorem dX1_leastLength_14 : decode cX1_leastLength 14 = .ok (.iload 6, 2) := by decide +kernel
theorem dX1_leastLength_16 : decode cX1_leastLength 16 = .ok (.iload_n 3, 1) := by decide +kernel
theorem dX1_leastLength_17 : decode cX1_leastLength 17 = .ok (.if_icmp .ge 25, 3) := by decide +kernel
theorem dX1_leastLength_20 : decode cX1_leastLength 20 = .ok (.iload 5, 2) := by decide +kernel
theorem dX1_leastLength_22 : decode cX1_leastLength 22 = .ok (.ldc 45, 2) := by decide +kernel
theorem dX1_leastLength_24 : decode cX1_leastLength 24 = .ok (.if_icmp .ge 18, 3) := by decide +kernel
theorem dX1_leastLength_27 : decode cX1_leastLength 27 = .ok (.iload 5, 2) := by decide +kernel
theorem dX1_leastLength_29 : decode cX1_leastLength 29 = .ok (.aload_n 0, 1) := by decide +kernel
theorem dX1_leastLength_30 : decode cX1_leastLength 30 = .ok (.invokevirtual 41, 3) := by decide +kernel
theorem dX1_leastLength_33 : decode cX1_leastLength 33 = .ok (.iadd, 1) := by decide +kernel
theorem dX1_leastLength_34 : decode cX1_leastLength 34 = .ok (.istore 5, 2) := by decide +kernel
theorem dX1_leastLength_36 : decode cX1_leastLength 36 = .ok (.iinc 6 1, 3) := by decide +kernel
theorem dX1_leastLength_39 : decode cX1_leastLength 39 = .ok (.goto (-25), 3) := by decide +kernel
theorem dX1_leastLength_42 : decode cX1_leastLength 42 = .ok (.iload 5, 2) := by decide +kernel
theorem dX1_leastLength_44 : decode cX1_leastLength 44 = .ok (.ireturn, 1) := by decide +kernel
theorem dX1_layArcs_0 : decode cX1_layArcs 0 = .ok (.aload_n 0, 1) := by decide +kernel
theorem dX1_layArcs_1 : decode cX1_layArcs 1 = .ok (.iload_n 1, 1) := by decide +kernel
theorem dX1_layArcs_2 : decode cX1_layArcs 2 = .ok (.invokestatic 46, 3) := by decide +kernel
theorem dX1_layArcs_5 : decode cX1_layArcs 5 = .ok (.putfield 50, 3) := by decide +kernel
theorem dX1_layArcs_8 : decode cX1_layArcs 8 = .ok (.aload_n 0, 1) := by decide +kernel
theorem dX1_layArcs_9 : decode cX1_layArcs 9 = .ok (.iload_n 2, 1) := by decide +kernel
theorem dX1_layArcs_10 : decode cX1_layArcs 10 = .ok (.invokestatic 54, 3) := by decide +kernel
theorem dX1_layArcs_13 : decode cX1_layArcs 13 = .ok (.putfield 57, 3) := by decide +kernel
theorem dX1_layArcs_16 : decode cX1_layArcs 16 = .ok (.aload_n 0, 1) := by decide +kernel
theorem dX1_layArcs_17 : decode cX1_layArcs 17 = .ok (.getfield 24, 3) := by decide +kernel
theorem dX1_layArcs_20 : decode cX1_layArcs 20 = .ok (.iconst 0, 1) := by decide +kernel
theorem dX1_layArcs_21 : decode cX1_layArcs 21 = .ok (.invokestatic 60, 3) := by decide +kernel
theorem dX1_layArcs_24 : decode cX1_layArcs 24 = .ok (.aload_n 0, 1) := by decide +kernel
theorem dX1_layArcs_25 : decode cX1_layArcs 25 = .ok (.getfield 21, 3) := by decide +kernel
theorem dX1_layArcs_28 : decode cX1_layArcs 28 = .ok (.iconst 0, 1) := by decide +kernel
theorem dX1_layArcs_29 : decode cX1_layArcs 29 = .ok (.invokestatic 60, 3) := by decide +kernel
theorem dX1_layArcs_32 : decode cX1_layArcs 32 = .ok (.iconst 0, 1) := by decide +kernel
theorem dX1_layArcs_33 : decode cX1_layArcs 33 = .ok (.istore 4, 2) := by decide +kernel
theorem dX1_layArcs_35 : decode cX1_layArcs 35 = .ok (.iload 4, 2) := by decide +kernel
theorem dX1_layArcs_37 : decode cX1_layArcs 37 = .ok (.aload_n 0, 1) := by decide +kernel
theorem dX1_layArcs_38 : decode cX1_layArcs 38 = .ok (.getfield 33, 3) := by decide +kernel
theorem dX1_layArcs_41 : decode cX1_layArcs 41 = .ok (.invokevirtual 66, 3) := by decide +kernel
theorem dX1_layArcs_44 : decode cX1_layArcs 44 = .ok (.if_icmp .ge 69, 3) := by decide +kernel
theorem dX1_layArcs_47 : decode cX1_layArcs 47 = .ok (.aload_n 0, 1) := by decide +kernel
theorem dX1_layArcs_48 : decode cX1_layArcs 48 = .ok (.getfield 33, 3) := by decide +kernel
theorem dX1_layArcs_51 : decode cX1_layArcs 51 = .ok (.iload 4, 2) := by decide +kernel
theorem dX1_layArcs_53 : decode cX1_layArcs 53 = .ok (.invokevirtual 71, 3) := by decide +kernel
theorem dX1_layArcs_56 : decode cX1_layArcs 56 = .ok (.istore 5, 2) := by decide +kernel
theorem dX1_layArcs_58 : decode cX1_layArcs 58 = .ok (.aload_n 0, 1) := by decide +kernel
theorem dX1_layArcs_59 : decode cX1_layArcs 59 = .ok (.iload 5, 2) := by decide +kernel
theorem dX1_layArcs_61 : decode cX1_layArcs 61 = .ok (.aload_n 0, 1) := by decide +kernel
theorem dX1_layArcs_62 : decode cX1_layArcs 62 = .ok (.getfield 33, 3) := by decide +kernel
theorem dX1_layArcs_65 : decode cX1_layArcs 65 = .ok (.iload 5, 2) := by decide +kernel
theorem dX1_layArcs_67 : decode cX1_layArcs 67 = .ok (.invokevirtual 74, 3) := by decide +kernel
theorem dX1_layArcs_70 : decode cX1_layArcs 70 = .ok (.invokestatic 46, 3) := by decide +kernel
theorem dX1_layArcs_73 : decode cX1_layArcs 73 = .ok (.aload_n 0, 1) := by decide +kernel
theorem dX1_layArcs_74 : decode cX1_layArcs 74 = .ok (.getfield 33, 3) := by decide +kernel
theorem dX1_layArcs_77 : decode cX1_layArcs 77 = .ok (.iload 5, 2) := by decide +kernel
theorem dX1_layArcs_79 : decode cX1_layArcs 79 = .ok (.invokevirtual 77, 3) := by decide +kernel
theorem dX1_layArcs_82 : decode cX1_layArcs 82 = .ok (.invokestatic 54, 3) := by decide +kernel
theorem dX1_layArcs_85 : decode cX1_layArcs 85 = .ok (.iconst 1, 1) := by decide +kernel
theorem dX1_layArcs_86 : decode cX1_layArcs 86 = .ok (.invokevirtual 80, 3) := by decide +kernel
theorem dX1_layArcs_89 : decode cX1_layArcs 89 = .ok (.aload_n 0, 1) := by decide +kernel
theorem dX1_layArcs_90 : decode cX1_layArcs 90 = .ok (.getfield 18, 3) := by decide +kernel
theorem dX1_layArcs_93 : decode cX1_layArcs 93 = .ok (.iload 5, 2) := by decide +kernel
theorem dX1_layArcs_95 : decode cX1_layArcs 95 = .ok (.aload_n 0, 1) := by decide +kernel
theorem dX1_layArcs_96 : decode cX1_layArcs 96 = .ok (.getfield 33, 3) := by decide +kernel
theorem dX1_layArcs_99 : decode cX1_layArcs 99 = .ok (.iload 5, 2) := by decide +kernel
theorem dX1_layArcs_101 : decode cX1_layArcs 101 = .ok (.invokevirtual 84, 3) := by decide +kernel
theorem dX1_layArcs_104 : decode cX1_layArcs 104 = .ok (.invokestatic 87, 3) := by decide +kernel
theorem dX1_layArcs_107 : decode cX1_layArcs 107 = .ok (.iinc 4 1, 3) := by decide +kernel
theorem dX1_layArcs_110 : decode cX1_layArcs 110 = .ok (.goto (-75), 3) := by decide +kernel
theorem dX1_layArcs_113 : decode cX1_layArcs 113 = .ok (.iconst 0, 1) := by decide +kernel
theorem dX1_layArcs_114 : decode cX1_layArcs 114 = .ok (.istore 4, 2) := by decide +kernel
theorem dX1_layArcs_116 : decode cX1_layArcs 116 = .ok (.iload 4, 2) := by decide +kernel
theorem dX1_layArcs_118 : decode cX1_layArcs 118 = .ok (.bipush 10, 2) := by decide +kernel
theorem dX1_layArcs_120 : decode cX1_layArcs 120 = .ok (.if_icmp .ge 58, 3) := by decide +kernel
theorem dX1_layArcs_123 : decode cX1_layArcs 123 = .ok (.iload 4, 2) := by decide +kernel
theorem dX1_layArcs_125 : decode cX1_layArcs 125 = .ok (.iload_n 1, 1) := by decide +kernel
theorem dX1_layArcs_126 : decode cX1_layArcs 126 = .ok (.if_icmp .eq 9, 3) := by decide +kernel
theorem dX1_layArcs_129 : decode cX1_layArcs 129 = .ok (.iload 4, 2) := by decide +kernel
theorem dX1_layArcs_131 : decode cX1_layArcs 131 = .ok (.iload_n 2, 1) := by decide +kernel
theorem dX1_layArcs_132 : decode cX1_layArcs 132 = .ok (.if_icmp .ne 7, 3) := by decide +kernel
theorem dX1_layArcs_135 : decode cX1_layArcs 135 = .ok (.iconst 0, 1) := by decide +kernel
theorem dX1_layArcs_136 : decode cX1_layArcs 136 = .ok (.goto 13, 3) := by decide +kernel
theorem dX1_layArcs_139 : decode cX1_layArcs 139 = .ok (.iload_n 3, 1) := by decide +kernel
theorem dX1_layArcs_140 : decode cX1_layArcs 140 = .ok (.ifCond .eq 7, 3) := by decide +kernel
theorem dX1_layArcs_143 : decode cX1_layArcs 143 = .ok (.iconst 1, 1) := by decide +kernel
theorem dX1_layArcs_144 : decode cX1_layArcs 144 = .ok (.goto 5, 3) := by decide +kernel
theorem dX1_layArcs_147 : decode cX1_layArcs 147 = .ok (.bipush 24, 2) := by decide +kernel
theorem dX1_layArcs_149 : decode cX1_layArcs 149 = .ok (.istore 5, 2) := by decide +kernel
theorem dX1_layArcs_151 : decode cX1_layArcs 151 = .ok (.aload_n 0, 1) := by decide +kernel
theorem dX1_layArcs_152 : decode cX1_layArcs 152 = .ok (.bipush 24, 2) := by decide +kernel
theorem dX1_layArcs_154 : decode cX1_layArcs 154 = .ok (.iload 4, 2) := by decide +kernel
theorem dX1_layArcs_156 : decode cX1_layArcs 156 = .ok (.iadd, 1) := by decide +kernel
theorem dX1_layArcs_157 : decode cX1_layArcs 157 = .ok (.iload 4, 2) := by decide +kernel
theorem dX1_layArcs_159 : decode cX1_layArcs 159 = .ok (.invokestatic 54, 3) := by decide +kernel
theorem dX1_layArcs_162 : decode cX1_layArcs 162 = .ok (.iload 4, 2) := by decide +kernel
theorem dX1_layArcs_164 : decode cX1_layArcs 164 = .ok (.invokestatic 46, 3) := by decide +kernel
theorem dX1_layArcs_167 : decode cX1_layArcs 167 = .ok (.iload 5, 2) := by decide +kernel
theorem dX1_layArcs_169 : decode cX1_layArcs 169 = .ok (.invokevirtual 80, 3) := by decide +kernel
theorem dX1_layArcs_172 : decode cX1_layArcs 172 = .ok (.iinc 4 1, 3) := by decide +kernel
theorem dX1_layArcs_175 : decode cX1_layArcs 175 = .ok (.goto (-59), 3) := by decide +kernel
theorem dX1_layArcs_178 : decode cX1_layArcs 178 = .ok (.return_, 1) := by decide +kernel
theorem dX1_layArc_0 : decode cX1_layArc 0 = .ok (.aload_n 0, 1) := by decide +kernel
theorem dX1_layArc_1 : decode cX1_layArc 1 = .ok (.getfield 11, 3) := by decide +kernel
theorem dX1_layArc_4 : decode cX1_layArc 4 = .ok (.iload_n 1, 1) := by decide +kernel
theorem dX1_layArc_5 : decode cX1_layArc 5 = .ok (.iload_n 2, 1) := by decide +kernel
theorem dX1_layArc_6 : decode cX1_layArc 6 = .ok (.invokestatic 87, 3) := by decide +kernel
theorem dX1_layArc_9 : decode cX1_layArc 9 = .ok (.aload_n 0, 1) := by decide +kernel
theorem dX1_layArc_10 : decode cX1_layArc 10 = .ok (.getfield 15, 3) := by decide +kernel
theorem dX1_layArc_13 : decode cX1_layArc 13 = .ok (.iload_n 1, 1) := by decide +kernel
theorem dX1_layArc_14 : decode cX1_layArc 14 = .ok (.iload_n 3, 1) := by decide +kernel
theorem dX1_layArc_15 : decode cX1_layArc 15 = .ok (.invokestatic 87, 3) := by decide +kernel
theorem dX1_layArc_18 : decode cX1_layArc 18 = .ok (.aload_n 0, 1) := by decide +kernel
theorem dX1_layArc_19 : decode cX1_layArc 19 = .ok (.getfield 21, 3) := by decide +kernel
theorem dX1_layArc_22 : decode cX1_layArc 22 = .ok (.iload_n 1, 1) := by decide +kernel
theorem dX1_layArc_23 : decode cX1_layArc 23 = .ok (.iload 4, 2) := by decide +kernel
theorem dX1_layArc_25 : decode cX1_layArc 25 = .ok (.invokestatic 87, 3) := by decide +kernel
theorem dX1_layArc_28 : decode cX1_layArc 28 = .ok (.return_, 1) := by decide +kernel
theorem dX1_pointBefore_0 : decode cX1_pointBefore 0 = .ok (.iconst 2, 1) := by decide +kernel
theorem dX1_pointBefore_1 : decode cX1_pointBefore 1 = .ok (.iload_n 0, 1) := by decide +kernel
theorem dX1_pointBefore_2 : decode cX1_pointBefore 2 = .ok (.imul, 1) := by decide +kernel
theorem dX1_pointBefore_3 : decode cX1_pointBefore 3 = .ok (.ireturn, 1) := by decide +kernel
theorem dX1_pointBehind_0 : decode cX1_pointBehind 0 = .ok (.iconst 2, 1) := by decide +kernel
theorem dX1_pointBehind_1 : decode cX1_pointBehind 1 = .ok (.iload_n 0, 1) := by decide +kernel
theorem dX1_pointBehind_2 : decode cX1_pointBehind 2 = .ok (.imul, 1) := by decide +kernel
theorem dX1_pointBehind_3 : decode cX1_pointBehind 3 = .ok (.iconst 1, 1) := by decide +kernel
theorem dX1_pointBehind_4 : decode cX1_pointBehind 4 = .ok (.iadd, 1) := by decide +kernel
theorem dX1_pointBehind_5 : decode cX1_pointBehind 5 = .ok (.ireturn, 1) := by decide +kernel
theorem dX1_addPath_0 : decode cX1_addPath 0 = .ok (.aload_n 0, 1) := by decide +kernel
theorem dX1_addPath_1 : decode cX1_addPath 1 = .ok (.getfield 27, 3) := by decide +kernel
theorem dX1_addPath_4 : decode cX1_addPath 4 = .ok (.ldc 45, 2) := by decide +kernel
theorem dX1_addPath_6 : decode cX1_addPath 6 = .ok (.invokestatic 60, 3) := by decide +kernel
theorem dX1_addPath_9 : decode cX1_addPath 9 = .ok (.aload_n 0, 1) := by decide +kernel
theorem dX1_addPath_10 : decode cX1_addPath 10 = .ok (.getfield 27, 3) := by decide +kernel
theorem dX1_addPath_13 : decode cX1_addPath 13 = .ok (.aload_n 0, 1) := by decide +kernel
theorem dX1_addPath_14 : decode cX1_addPath 14 = .ok (.getfield 50, 3) := by decide +kernel
theorem dX1_addPath_17 : decode cX1_addPath 17 = .ok (.iconst 0, 1) := by decide +kernel
theorem dX1_addPath_18 : decode cX1_addPath 18 = .ok (.invokestatic 87, 3) := by decide +kernel
theorem dX1_addPath_21 : decode cX1_addPath 21 = .ok (.iconst 1, 1) := by decide +kernel
theorem dX1_addPath_22 : decode cX1_addPath 22 = .ok (.istore_n 1, 1) := by decide +kernel
theorem dX1_addPath_23 : decode cX1_addPath 23 = .ok (.iconst 0, 1) := by decide +kernel
theorem dX1_addPath_24 : decode cX1_addPath 24 = .ok (.istore_n 2, 1) := by decide +kernel
theorem dX1_addPath_25 : decode cX1_addPath 25 = .ok (.iload_n 2, 1) := by decide +kernel
theorem dX1_addPath_26 : decode cX1_addPath 26 = .ok (.bipush 20, 2) := by decide +kernel
theorem dX1_addPath_28 : decode cX1_addPath 28 = .ok (.if_icmp .ge 18, 3) := by decide +kernel
theorem dX1_addPath_31 : decode cX1_addPath 31 = .ok (.iload_n 1, 1) := by decide +kernel
theorem dX1_addPath_32 : decode cX1_addPath 32 = .ok (.ifCond .eq 14, 3) := by decide +kernel
theorem dX1_addPath_35 : decode cX1_addPath 35 = .ok (.aload_n 0, 1) := by decide +kernel
theorem dX1_addPath_36 : decode cX1_addPath 36 = .ok (.invokevirtual 91, 3) := by decide +kernel
theorem dX1_addPath_39 : decode cX1_addPath 39 = .ok (.istore_n 1, 1) := by decide +kernel
theorem dX1_addPath_40 : decode cX1_addPath 40 = .ok (.iinc 2 1, 3) := by decide +kernel
theorem dX1_addPath_43 : decode cX1_addPath 43 = .ok (.goto (-18), 3) := by decide +kernel
theorem dX1_addPath_46 : decode cX1_addPath 46 = .ok (.aload_n 0, 1) := by decide +kernel
theorem dX1_addPath_47 : decode cX1_addPath 47 = .ok (.getfield 27, 3) := by decide +kernel
theorem dX1_addPath_50 : decode cX1_addPath 50 = .ok (.aload_n 0, 1) := by decide +kernel
theorem dX1_addPath_51 : decode cX1_addPath 51 = .ok (.getfield 57, 3) := by decide +kernel
theorem dX1_addPath_54 : decode cX1_addPath 54 = .ok (.invokestatic 95, 3) := by decide +kernel
theorem dX1_addPath_57 : decode cX1_addPath 57 = .ok (.istore_n 2, 1) := by decide +kernel
theorem dX1_addPath_58 : decode cX1_addPath 58 = .ok (.iload_n 2, 1) := by decide +kernel
theorem dX1_addPath_59 : decode cX1_addPath 59 = .ok (.ldc 45, 2) := by decide +kernel
theorem dX1_addPath_61 : decode cX1_addPath 61 = .ok (.if_icmp .ge 7, 3) := by decide +kernel
theorem dX1_addPath_64 : decode cX1_addPath 64 = .ok (.aload_n 0, 1) := by decide +kernel
theorem dX1_addPath_65 : decode cX1_addPath 65 = .ok (.invokevirtual 99, 3) := by decide +kernel
theorem dX1_addPath_68 : decode cX1_addPath 68 = .ok (.iload_n 2, 1) := by decide +kernel
theorem dX1_addPath_69 : decode cX1_addPath 69 = .ok (.ireturn, 1) := by decide +kernel
theorem dX1_cheapenAll_0 : decode cX1_cheapenAll 0 = .ok (.iconst 0, 1) := by decide +kernel
theorem dX1_cheapenAll_1 : decode cX1_cheapenAll 1 = .ok (.istore_n 1, 1) := by decide +kernel
theorem dX1_cheapenAll_2 : decode cX1_cheapenAll 2 = .ok (.iconst 0, 1) := by decide +kernel
theorem dX1_cheapenAll_3 : decode cX1_cheapenAll 3 = .ok (.istore_n 2, 1) := by decide +kernel
theorem dX1_cheapenAll_4 : decode cX1_cheapenAll 4 = .ok (.iload_n 2, 1) := by decide +kernel
theorem dX1_cheapenAll_5 : decode cX1_cheapenAll 5 = .ok (.bipush 34, 2) := by decide +kernel
theorem dX1_cheapenAll_7 : decode cX1_cheapenAll 7 = .ok (.if_icmp .ge 117, 3) := by decide +kernel
theorem dX1_cheapenAll_10 : decode cX1_cheapenAll 10 = .ok (.aload_n 0, 1) := by decide +kernel
theorem dX1_cheapenAll_11 : decode cX1_cheapenAll 11 = .ok (.getfield 11, 3) := by decide +kernel
theorem dX1_cheapenAll_14 : decode cX1_cheapenAll 14 = .ok (.iload_n 2, 1) := by decide +kernel
theorem dX1_cheapenAll_15 : decode cX1_cheapenAll 15 = .ok (.invokestatic 95, 3) := by decide +kernel
theorem dX1_cheapenAll_18 : decode cX1_cheapenAll 18 = .ok (.istore_n 3, 1) := by decide +kernel
theorem dX1_cheapenAll_19 : decode cX1_cheapenAll 19 = .ok (.aload_n 0, 1) := by decide +kernel
theorem dX1_cheapenAll_20 : decode cX1_cheapenAll 20 = .ok (.getfield 15, 3) := by decide +kernel
theorem dX1_cheapenAll_23 : decode cX1_cheapenAll 23 = .ok (.iload_n 2, 1) := by decide +kernel
theorem dX1_cheapenAll_24 : decode cX1_cheapenAll 24 = .ok (.invokestatic 95, 3) := by decide +kernel
theorem dX1_cheapenAll_27 : decode cX1_cheapenAll 27 = .ok (.istore 4, 2) := by decide +kernel
theorem dX1_cheapenAll_29 : decode cX1_cheapenAll 29 = .ok (.aload_n 0, 1) := by decide +kernel
theorem dX1_cheapenAll_30 : decode cX1_cheapenAll 30 = .ok (.getfield 24, 3) := by decide +kernel
theorem dX1_cheapenAll_33 : decode cX1_cheapenAll 33 = .ok (.iload_n 2, 1) := by decide +kernel
theorem dX1_cheapenAll_34 : decode cX1_cheapenAll 34 = .ok (.invokestatic 95, 3) := by decide +kernel
theorem dX1_cheapenAll_37 : decode cX1_cheapenAll 37 = .ok (.aload_n 0, 1) := by decide +kernel
theorem dX1_cheapenAll_38 : decode cX1_cheapenAll 38 = .ok (.getfield 21, 3) := by decide +kernel
theorem dX1_cheapenAll_41 : decode cX1_cheapenAll 41 = .ok (.iload_n 2, 1) := by decide +kernel
theorem dX1_cheapenAll_42 : decode cX1_cheapenAll 42 = .ok (.invokestatic 95, 3) := by decide +kernel
theorem dX1_cheapenAll_45 : decode cX1_cheapenAll 45 = .ok (.if_icmp .ge 32, 3) := by decide +kernel
theorem dX1_cheapenAll_48 : decode cX1_cheapenAll 48 = .ok (.aload_n 0, 1) := by decide +kernel
theorem dX1_cheapenAll_49 : decode cX1_cheapenAll 49 = .ok (.iload 4, 2) := by decide +kernel
theorem dX1_cheapenAll_51 : decode cX1_cheapenAll 51 = .ok (.iload_n 3, 1) := by decide +kernel
theorem dX1_cheapenAll_52 : decode cX1_cheapenAll 52 = .ok (.aload_n 0, 1) := by decide +kernel
theorem dX1_cheapenAll_53 : decode cX1_cheapenAll 53 = .ok (.getfield 18, 3) := by decide +kernel
theorem dX1_cheapenAll_56 : decode cX1_cheapenAll 56 = .ok (.iload_n 2, 1) := by decide +kernel
theorem dX1_cheapenAll_57 : decode cX1_cheapenAll 57 = .ok (.invokestatic 95, 3) := by decide +kernel
theorem dX1_cheapenAll_60 : decode cX1_cheapenAll 60 = .ok (.iload_n 2, 1) := by decide +kernel
theorem dX1_cheapenAll_61 : decode cX1_cheapenAll 61 = .ok (.invokevirtual 102, 3) := by decide +kernel
theorem dX1_cheapenAll_64 : decode cX1_cheapenAll 64 = .ok (.ifCond .ne 7, 3) := by decide +kernel
theorem dX1_cheapenAll_67 : decode cX1_cheapenAll 67 = .ok (.iload_n 1, 1) := by decide +kernel
theorem dX1_cheapenAll_68 : decode cX1_cheapenAll 68 = .ok (.ifCond .eq 7, 3) := by decide +kernel
theorem dX1_cheapenAll_71 : decode cX1_cheapenAll 71 = .ok (.iconst 1, 1) := by decide +kernel
theorem dX1_cheapenAll_72 : decode cX1_cheapenAll 72 = .ok (.goto 4, 3) := by decide +kernel
theorem dX1_cheapenAll_75 : decode cX1_cheapenAll 75 = .ok (.iconst 0, 1) := by decide +kernel
theorem dX1_cheapenAll_76 : decode cX1_cheapenAll 76 = .ok (.istore_n 1, 1) := by decide +kernel
theorem dX1_cheapenAll_77 : decode cX1_cheapenAll 77 = .ok (.aload_n 0, 1) := by decide +kernel
theorem dX1_cheapenAll_78 : decode cX1_cheapenAll 78 = .ok (.getfield 24, 3) := by decide +kernel
theorem dX1_cheapenAll_81 : decode cX1_cheapenAll 81 = .ok (.iload_n 2, 1) := by decide +kernel
theorem dX1_cheapenAll_82 : decode cX1_cheapenAll 82 = .ok (.invokestatic 95, 3) := by decide +kernel
theorem dX1_cheapenAll_85 : decode cX1_cheapenAll 85 = .ok (.ifCond .le 33, 3) := by decide +kernel
theorem dX1_cheapenAll_88 : decode cX1_cheapenAll 88 = .ok (.aload_n 0, 1) := by decide +kernel
theorem dX1_cheapenAll_89 : decode cX1_cheapenAll 89 = .ok (.iload_n 3, 1) := by decide +kernel
theorem dX1_cheapenAll_90 : decode cX1_cheapenAll 90 = .ok (.iload 4, 2) := by decide +kernel
theorem dX1_cheapenAll_92 : decode cX1_cheapenAll 92 = .ok (.aload_n 0, 1) := by decide +kernel
theorem dX1_cheapenAll_93 : decode cX1_cheapenAll 93 = .ok (.getfield 18, 3) := by decide +kernel
theorem dX1_cheapenAll_96 : decode cX1_cheapenAll 96 = .ok (.iload_n 2, 1) := by decide +kernel
theorem dX1_cheapenAll_97 : decode cX1_cheapenAll 97 = .ok (.invokestatic 95, 3) := by decide +kernel
theorem dX1_cheapenAll_100 : decode cX1_cheapenAll 100 = .ok (.ineg, 1) := by decide +kernel
theorem dX1_cheapenAll_101 : decode cX1_cheapenAll 101 = .ok (.iload_n 2, 1) := by decide +kernel
theorem dX1_cheapenAll_102 : decode cX1_cheapenAll 102 = .ok (.invokevirtual 102, 3) := by decide +kernel
theorem dX1_cheapenAll_105 : decode cX1_cheapenAll 105 = .ok (.ifCond .ne 7, 3) := by decide +kernel
theorem dX1_cheapenAll_108 : decode cX1_cheapenAll 108 = .ok (.iload_n 1, 1) := by decide +kernel
theorem dX1_cheapenAll_109 : decode cX1_cheapenAll 109 = .ok (.ifCond .eq 7, 3) := by decide +kernel
theorem dX1_cheapenAll_112 : decode cX1_cheapenAll 112 = .ok (.iconst 1, 1) := by decide +kernel
theorem dX1_cheapenAll_113 : decode cX1_cheapenAll 113 = .ok (.goto 4, 3) := by decide +kernel
theorem dX1_cheapenAll_116 : decode cX1_cheapenAll 116 = .ok (.iconst 0, 1) := by decide +kernel
theorem dX1_cheapenAll_117 : decode cX1_cheapenAll 117 = .ok (.istore_n 1, 1) := by decide +kernel
theorem dX1_cheapenAll_118 : decode cX1_cheapenAll 118 = .ok (.iinc 2 1, 3) := by decide +kernel
theorem dX1_cheapenAll_121 : decode cX1_cheapenAll 121 = .ok (.goto (-117), 3) := by decide +kernel
theorem dX1_cheapenAll_124 : decode cX1_cheapenAll 124 = .ok (.iload_n 1, 1) := by decide +kernel
theorem dX1_cheapenAll_125 : decode cX1_cheapenAll 125 = .ok (.ireturn, 1) := by decide +kernel
theorem dX1_reach_0 : decode cX1_reach 0 = .ok (.aload_n 0, 1) := by decide +kernel
theorem dX1_reach_1 : decode cX1_reach 1 = .ok (.getfield 27, 3) := by decide +kernel
theorem dX1_reach_4 : decode cX1_reach 4 = .ok (.iload_n 2, 1) := by decide +kernel
theorem dX1_reach_5 : decode cX1_reach 5 = .ok (.invokestatic 95, 3) := by decide +kernel
theorem dX1_reach_8 : decode cX1_reach 8 = .ok (.iload_n 3, 1) := by decide +kernel
theorem dX1_reach_9 : decode cX1_reach 9 = .ok (.iadd, 1) := by decide +kernel
theorem dX1_reach_10 : decode cX1_reach 10 = .ok (.istore 5, 2) := by decide +kernel
theorem dX1_reach_12 : decode cX1_reach 12 = .ok (.aload_n 0, 1) := by decide +kernel
theorem dX1_reach_13 : decode cX1_reach 13 = .ok (.getfield 27, 3) := by decide +kernel
theorem dX1_reach_16 : decode cX1_reach 16 = .ok (.iload_n 2, 1) := by decide +kernel
theorem dX1_reach_17 : decode cX1_reach 17 = .ok (.invokestatic 95, 3) := by decide +kernel
theorem dX1_reach_20 : decode cX1_reach 20 = .ok (.ldc 45, 2) := by decide +kernel
theorem dX1_reach_22 : decode cX1_reach 22 = .ok (.if_icmp .ge 16, 3) := by decide +kernel
theorem dX1_reach_25 : decode cX1_reach 25 = .ok (.iload 5, 2) := by decide +kernel
theorem dX1_reach_27 : decode cX1_reach 27 = .ok (.aload_n 0, 1) := by decide +kernel
theorem dX1_reach_28 : decode cX1_reach 28 = .ok (.getfield 27, 3) := by decide +kernel
theorem dX1_reach_31 : decode cX1_reach 31 = .ok (.iload_n 1, 1) := by decide +kernel
theorem dX1_reach_32 : decode cX1_reach 32 = .ok (.invokestatic 95, 3) := by decide +kernel
theorem dX1_reach_35 : decode cX1_reach 35 = .ok (.if_icmp .lt 5, 3) := by decide +kernel
theorem dX1_reach_38 : decode cX1_reach 38 = .ok (.iconst 0, 1) := by decide +kernel
theorem dX1_reach_39 : decode cX1_reach 39 = .ok (.ireturn, 1) := by decide +kernel
theorem dX1_reach_40 : decode cX1_reach 40 = .ok (.aload_n 0, 1) := by decide +kernel
theorem dX1_reach_41 : decode cX1_reach 41 = .ok (.getfield 27, 3) := by decide +kernel
theorem dX1_reach_44 : decode cX1_reach 44 = .ok (.iload_n 1, 1) := by decide +kernel
theorem dX1_reach_45 : decode cX1_reach 45 = .ok (.iload 5, 2) := by decide +kernel
theorem dX1_reach_47 : decode cX1_reach 47 = .ok (.invokestatic 87, 3) := by decide +kernel
theorem dX1_reach_50 : decode cX1_reach 50 = .ok (.aload_n 0, 1) := by decide +kernel
theorem dX1_reach_51 : decode cX1_reach 51 = .ok (.getfield 30, 3) := by decide +kernel
theorem dX1_reach_54 : decode cX1_reach 54 = .ok (.iload_n 1, 1) := by decide +kernel
theorem dX1_reach_55 : decode cX1_reach 55 = .ok (.iload 4, 2) := by decide +kernel
theorem dX1_reach_57 : decode cX1_reach 57 = .ok (.invokestatic 87, 3) := by decide +kernel
theorem dX1_reach_60 : decode cX1_reach 60 = .ok (.iconst 1, 1) := by decide +kernel
theorem dX1_reach_61 : decode cX1_reach 61 = .ok (.ireturn, 1) := by decide +kernel
theorem dX1_send_0 : decode cX1_send 0 = .ok (.aload_n 0, 1) := by decide +kernel
theorem dX1_send_1 : decode cX1_send 1 = .ok (.getfield 57, 3) := by decide +kernel
theorem dX1_send_4 : decode cX1_send 4 = .ok (.istore_n 1, 1) := by decide +kernel
theorem dX1_send_5 : decode cX1_send 5 = .ok (.iconst 0, 1) := by decide +kernel
theorem dX1_send_6 : decode cX1_send 6 = .ok (.istore_n 2, 1) := by decide +kernel
theorem dX1_send_7 : decode cX1_send 7 = .ok (.iload_n 2, 1) := by decide +kernel
theorem dX1_send_8 : decode cX1_send 8 = .ok (.bipush 20, 2) := by decide +kernel
theorem dX1_send_10 : decode cX1_send 10 = .ok (.if_icmp .ge 97, 3) := by decide +kernel
theorem dX1_send_13 : decode cX1_send 13 = .ok (.iload_n 1, 1) := by decide +kernel
theorem dX1_send_14 : decode cX1_send 14 = .ok (.aload_n 0, 1) := by decide +kernel
theorem dX1_send_15 : decode cX1_send 15 = .ok (.getfield 50, 3) := by decide +kernel
theorem dX1_send_18 : decode cX1_send 18 = .ok (.if_icmp .eq 89, 3) := by decide +kernel
theorem dX1_send_21 : decode cX1_send 21 = .ok (.aload_n 0, 1) := by decide +kernel
theorem dX1_send_22 : decode cX1_send 22 = .ok (.getfield 30, 3) := by decide +kernel
theorem dX1_send_25 : decode cX1_send 25 = .ok (.iload_n 1, 1) := by decide +kernel
theorem dX1_send_26 : decode cX1_send 26 = .ok (.invokestatic 95, 3) := by decide +kernel
theorem dX1_send_29 : decode cX1_send 29 = .ok (.istore_n 3, 1) := by decide +kernel
theorem dX1_send_30 : decode cX1_send 30 = .ok (.aload_n 0, 1) := by decide +kernel
theorem dX1_send_31 : decode cX1_send 31 = .ok (.getfield 15, 3) := by decide +kernel
theorem dX1_send_34 : decode cX1_send 34 = .ok (.iload_n 3, 1) := by decide +kernel
theorem dX1_send_35 : decode cX1_send 35 = .ok (.invokestatic 95, 3) := by decide +kernel
theorem dX1_send_38 : decode cX1_send 38 = .ok (.iload_n 1, 1) := by decide +kernel
theorem dX1_send_39 : decode cX1_send 39 = .ok (.if_icmp .ne 7, 3) := by decide +kernel
theorem dX1_send_42 : decode cX1_send 42 = .ok (.iconst 1, 1) := by decide +kernel
theorem dX1_send_43 : decode cX1_send 43 = .ok (.goto 4, 3) := by decide +kernel
theorem dX1_send_46 : decode cX1_send 46 = .ok (.iconst 0, 1) := by decide +kernel
theorem dX1_send_47 : decode cX1_send 47 = .ok (.istore 4, 2) := by decide +kernel
theorem dX1_send_49 : decode cX1_send 49 = .ok (.aload_n 0, 1) := by decide +kernel
theorem dX1_send_50 : decode cX1_send 50 = .ok (.getfield 24, 3) := by decide +kernel
theorem dX1_send_53 : decode cX1_send 53 = .ok (.iload_n 3, 1) := by decide +kernel
theorem dX1_send_54 : decode cX1_send 54 = .ok (.aload_n 0, 1) := by decide +kernel
theorem dX1_send_55 : decode cX1_send 55 = .ok (.getfield 24, 3) := by decide +kernel
theorem dX1_send_58 : decode cX1_send 58 = .ok (.iload_n 3, 1) := by decide +kernel
theorem dX1_send_59 : decode cX1_send 59 = .ok (.invokestatic 95, 3) := by decide +kernel
theorem dX1_send_62 : decode cX1_send 62 = .ok (.iload 4, 2) := by decide +kernel
theorem dX1_send_64 : decode cX1_send 64 = .ok (.ifCond .eq 7, 3) := by decide +kernel
theorem dX1_send_67 : decode cX1_send 67 = .ok (.iconst 1, 1) := by decide +kernel
theorem dX1_send_68 : decode cX1_send 68 = .ok (.goto 4, 3) := by decide +kernel
theorem dX1_send_71 : decode cX1_send 71 = .ok (.iconst (-1), 1) := by decide +kernel
theorem dX1_send_72 : decode cX1_send 72 = .ok (.iadd, 1) := by decide +kernel
theorem dX1_send_73 : decode cX1_send 73 = .ok (.invokestatic 87, 3) := by decide +kernel
theorem dX1_send_76 : decode cX1_send 76 = .ok (.iload 4, 2) := by decide +kernel
theorem dX1_send_78 : decode cX1_send 78 = .ok (.ifCond .eq 14, 3) := by decide +kernel
theorem dX1_send_81 : decode cX1_send 81 = .ok (.aload_n 0, 1) := by decide +kernel
theorem dX1_send_82 : decode cX1_send 82 = .ok (.getfield 11, 3) := by decide +kernel
theorem dX1_send_85 : decode cX1_send 85 = .ok (.iload_n 3, 1) := by decide +kernel
theorem dX1_send_86 : decode cX1_send 86 = .ok (.invokestatic 95, 3) := by decide +kernel
theorem dX1_send_89 : decode cX1_send 89 = .ok (.goto 11, 3) := by decide +kernel
theorem dX1_send_92 : decode cX1_send 92 = .ok (.aload_n 0, 1) := by decide +kernel
theorem dX1_send_93 : decode cX1_send 93 = .ok (.getfield 15, 3) := by decide +kernel
theorem dX1_send_96 : decode cX1_send 96 = .ok (.iload_n 3, 1) := by decide +kernel
theorem dX1_send_97 : decode cX1_send 97 = .ok (.invokestatic 95, 3) := by decide +kernel
theorem dX1_send_100 : decode cX1_send 100 = .ok (.istore_n 1, 1) := by decide +kernel
theorem dX1_send_101 : decode cX1_send 101 = .ok (.iinc 2 1, 3) := by decide +kernel
theorem dX1_send_104 : decode cX1_send 104 = .ok (.goto (-97), 3) := by decide +kernel
theorem dX1_send_107 : decode cX1_send 107 = .ok (.return_, 1) := by decide +kernel
theorem dX2_init_0 : decode cX2_init 0 = .ok (.aload_n 0, 1) := by decide +kernel
theorem dX2_init_1 : decode cX2_init 1 = .ok (.invokespecial 3, 3) := by decide +kernel
theorem dX2_init_4 : decode cX2_init 4 = .ok (.aload_n 0, 1) := by decide +kernel
theorem dX2_init_5 : decode cX2_init 5 = .ok (.bipush 10, 2) := by decide +kernel
theorem dX2_init_7 : decode cX2_init 7 = .ok (.newarray .int, 2) := by decide +kernel
theorem dX2_init_9 : decode cX2_init 9 = .ok (.putfield 9, 3) := by decide +kernel
theorem dX2_init_12 : decode cX2_init 12 = .ok (.aload_n 0, 1) := by decide +kernel
theorem dX2_init_13 : decode cX2_init 13 = .ok (.aload_n 1, 1) := by decide +kernel
theorem dX2_init_14 : decode cX2_init 14 = .ok (.putfield 15, 3) := by decide +kernel
theorem dX2_init_17 : decode cX2_init 17 = .ok (.return_, 1) := by decide +kernel
theorem dX2_measureTo_0 : decode cX2_measureTo 0 = .ok (.aload_n 0, 1) := by decide +kernel
theorem dX2_measureTo_1 : decode cX2_measureTo 1 = .ok (.getfield 9, 3) := by decide +kernel
theorem dX2_measureTo_4 : decode cX2_measureTo 4 = .ok (.ldc 19, 2) := by decide +kernel
theorem dX2_measureTo_6 : decode cX2_measureTo 6 = .ok (.invokestatic 20, 3) := by decide +kernel
theorem dX2_measureTo_9 : decode cX2_measureTo 9 = .ok (.aload_n 0, 1) := by decide +kernel
theorem dX2_measureTo_10 : decode cX2_measureTo 10 = .ok (.getfield 9, 3) := by decide +kernel
theorem dX2_measureTo_13 : decode cX2_measureTo 13 = .ok (.iload_n 1, 1) := by decide +kernel
theorem dX2_measureTo_14 : decode cX2_measureTo 14 = .ok (.iconst 0, 1) := by decide +kernel
theorem dX2_measureTo_15 : decode cX2_measureTo 15 = .ok (.invokestatic 26, 3) := by decide +kernel
theorem dX2_measureTo_18 : decode cX2_measureTo 18 = .ok (.iconst 1, 1) := by decide +kernel
theorem dX2_measureTo_19 : decode cX2_measureTo 19 = .ok (.istore_n 2, 1) := by decide +kernel
theorem dX2_measureTo_20 : decode cX2_measureTo 20 = .ok (.iconst 0, 1) := by decide +kernel
theorem dX2_measureTo_21 : decode cX2_measureTo 21 = .ok (.istore_n 3, 1) := by decide +kernel
theorem dX2_measureTo_22 : decode cX2_measureTo 22 = .ok (.iload_n 3, 1) := by decide +kernel
theorem dX2_measureTo_23 : decode cX2_measureTo 23 = .ok (.bipush 10, 2) := by decide +kernel
theorem dX2_measureTo_25 : decode cX2_measureTo 25 = .ok (.if_icmp .ge 18, 3) := by decide +kernel
theorem dX2_measureTo_28 : decode cX2_measureTo 28 = .ok (.iload_n 2, 1) := by decide +kernel
theorem dX2_measureTo_29 : decode cX2_measureTo 29 = .ok (.ifCond .eq 14, 3) := by decide +kernel
theorem dX2_measureTo_32 : decode cX2_measureTo 32 = .ok (.aload_n 0, 1) := by decide +kernel
theorem dX2_measureTo_33 : decode cX2_measureTo 33 = .ok (.invokevirtual 30, 3) := by decide +kernel
theorem dX2_measureTo_36 : decode cX2_measureTo 36 = .ok (.istore_n 2, 1) := by decide +kernel
theorem dX2_measureTo_37 : decode cX2_measureTo 37 = .ok (.iinc 3 1, 3) := by decide +kernel
theorem dX2_measureTo_40 : decode cX2_measureTo 40 = .ok (.goto (-18), 3) := by decide +kernel
theorem dX2_measureTo_43 : decode cX2_measureTo 43 = .ok (.return_, 1) := by decide +kernel
theorem dX2_shortenAll_0 : decode cX2_shortenAll 0 = .ok (.iconst 0, 1) := by decide +kernel
theorem dX2_shortenAll_1 : decode cX2_shortenAll 1 = .ok (.istore_n 1, 1) := by decide +kernel
theorem dX2_shortenAll_2 : decode cX2_shortenAll 2 = .ok (.iconst 0, 1) := by decide +kernel
theorem dX2_shortenAll_3 : decode cX2_shortenAll 3 = .ok (.istore_n 2, 1) := by decide +kernel
theorem dX2_shortenAll_4 : decode cX2_shortenAll 4 = .ok (.iload_n 2, 1) := by decide +kernel
theorem dX2_shortenAll_5 : decode cX2_shortenAll 5 = .ok (.aload_n 0, 1) := by decide +kernel
theorem dX2_shortenAll_6 : decode cX2_shortenAll 6 = .ok (.getfield 15, 3) := by decide +kernel
theorem dX2_shortenAll_9 : decode cX2_shortenAll 9 = .ok (.invokevirtual 34, 3) := by decide +kernel
theorem dX2_shortenAll_12 : decode cX2_shortenAll 12 = .ok (.if_icmp .ge 77, 3) := by decide +kernel
theorem dX2_shortenAll_15 : decode cX2_shortenAll 15 = .ok (.aload_n 0, 1) := by decide +kernel
theorem dX2_shortenAll_16 : decode cX2_shortenAll 16 = .ok (.getfield 15, 3) := by decide +kernel
theorem dX2_shortenAll_19 : decode cX2_shortenAll 19 = .ok (.iload_n 2, 1) := by decide +kernel
theorem dX2_shortenAll_20 : decode cX2_shortenAll 20 = .ok (.invokevirtual 40, 3) := by decide +kernel
theorem dX2_shortenAll_23 : decode cX2_shortenAll 23 = .ok (.istore_n 3, 1) := by decide +kernel
theorem dX2_shortenAll_24 : decode cX2_shortenAll 24 = .ok (.aload_n 0, 1) := by decide +kernel
theorem dX2_shortenAll_25 : decode cX2_shortenAll 25 = .ok (.getfield 15, 3) := by decide +kernel
theorem dX2_shortenAll_28 : decode cX2_shortenAll 28 = .ok (.iload_n 3, 1) := by decide +kernel
theorem dX2_shortenAll_29 : decode cX2_shortenAll 29 = .ok (.invokevirtual 44, 3) := by decide +kernel
theorem dX2_shortenAll_32 : decode cX2_shortenAll 32 = .ok (.aload_n 0, 1) := by decide +kernel
theorem dX2_shortenAll_33 : decode cX2_shortenAll 33 = .ok (.aload_n 0, 1) := by decide +kernel
theorem dX2_shortenAll_34 : decode cX2_shortenAll 34 = .ok (.getfield 15, 3) := by decide +kernel
theorem dX2_shortenAll_37 : decode cX2_shortenAll 37 = .ok (.iload_n 3, 1) := by decide +kernel
theorem dX2_shortenAll_38 : decode cX2_shortenAll 38 = .ok (.invokevirtual 47, 3) := by decide +kernel
theorem dX2_shortenAll_41 : decode cX2_shortenAll 41 = .ok (.invokevirtual 50, 3) := by decide +kernel
theorem dX2_shortenAll_44 : decode cX2_shortenAll 44 = .ok (.iadd, 1) := by decide +kernel
theorem dX2_shortenAll_45 : decode cX2_shortenAll 45 = .ok (.istore 4, 2) := by decide +kernel
theorem dX2_shortenAll_47 : decode cX2_shortenAll 47 = .ok (.iload 4, 2) := by decide +kernel
theorem dX2_shortenAll_49 : decode cX2_shortenAll 49 = .ok (.aload_n 0, 1) := by decide +kernel
theorem dX2_shortenAll_50 : decode cX2_shortenAll 50 = .ok (.aload_n 0, 1) := by decide +kernel
theorem dX2_shortenAll_51 : decode cX2_shortenAll 51 = .ok (.getfield 15, 3) := by decide +kernel
theorem dX2_shortenAll_54 : decode cX2_shortenAll 54 = .ok (.iload_n 3, 1) := by decide +kernel
theorem dX2_shortenAll_55 : decode cX2_shortenAll 55 = .ok (.invokevirtual 53, 3) := by decide +kernel
theorem dX2_shortenAll_58 : decode cX2_shortenAll 58 = .ok (.invokevirtual 50, 3) := by decide +kernel
theorem dX2_shortenAll_61 : decode cX2_shortenAll 61 = .ok (.if_icmp .ge 22, 3) := by decide +kernel
theorem dX2_shortenAll_64 : decode cX2_shortenAll 64 = .ok (.aload_n 0, 1) := by decide +kernel
theorem dX2_shortenAll_65 : decode cX2_shortenAll 65 = .ok (.getfield 9, 3) := by decide +kernel
theorem dX2_shortenAll_68 : decode cX2_shortenAll 68 = .ok (.aload_n 0, 1) := by decide +kernel
theorem dX2_shortenAll_69 : decode cX2_shortenAll 69 = .ok (.getfield 15, 3) := by decide +kernel
theorem dX2_shortenAll_72 : decode cX2_shortenAll 72 = .ok (.iload_n 3, 1) := by decide +kernel
theorem dX2_shortenAll_73 : decode cX2_shortenAll 73 = .ok (.invokevirtual 53, 3) := by decide +kernel
theorem dX2_shortenAll_76 : decode cX2_shortenAll 76 = .ok (.iload 4, 2) := by decide +kernel
theorem dX2_shortenAll_78 : decode cX2_shortenAll 78 = .ok (.invokestatic 26, 3) := by decide +kernel
theorem dX2_shortenAll_81 : decode cX2_shortenAll 81 = .ok (.iconst 1, 1) := by decide +kernel
theorem dX2_shortenAll_82 : decode cX2_shortenAll 82 = .ok (.istore_n 1, 1) := by decide +kernel
theorem dX2_shortenAll_83 : decode cX2_shortenAll 83 = .ok (.iinc 2 1, 3) := by decide +kernel
theorem dX2_shortenAll_86 : decode cX2_shortenAll 86 = .ok (.goto (-82), 3) := by decide +kernel
theorem dX2_shortenAll_89 : decode cX2_shortenAll 89 = .ok (.iload_n 1, 1) := by decide +kernel
theorem dX2_shortenAll_90 : decode cX2_shortenAll 90 = .ok (.ireturn, 1) := by decide +kernel
theorem dX2_ofNode_0 : decode cX2_ofNode 0 = .ok (.aload_n 0, 1) := by decide +kernel
theorem dX2_ofNode_1 : decode cX2_ofNode 1 = .ok (.getfield 9, 3) := by decide +kernel
theorem dX2_ofNode_4 : decode cX2_ofNode 4 = .ok (.iload_n 1, 1) := by decide +kernel
theorem dX2_ofNode_5 : decode cX2_ofNode 5 = .ok (.invokestatic 56, 3) := by decide +kernel
theorem dX2_ofNode_8 : decode cX2_ofNode 8 = .ok (.ireturn, 1) := by decide +kernel
theorem dX3_init_0 : decode cX3_init 0 = .ok (.aload_n 0, 1) := by decide +kernel
theorem dX3_init_1 : decode cX3_init 1 = .ok (.invokespecial 3, 3) := by decide +kernel
theorem dX3_init_4 : decode cX3_init 4 = .ok (.aload_n 0, 1) := by decide +kernel
theorem dX3_init_5 : decode cX3_init 5 = .ok (.bipush 24, 2) := by decide +kernel
theorem dX3_init_7 : decode cX3_init 7 = .ok (.newarray .int, 2) := by decide +kernel
theorem dX3_init_9 : decode cX3_init 9 = .ok (.putfield 9, 3) := by decide +kernel
theorem dX3_init_12 : decode cX3_init 12 = .ok (.aload_n 0, 1) := by decide +kernel
theorem dX3_init_13 : decode cX3_init 13 = .ok (.bipush 24, 2) := by decide +kernel
theorem dX3_init_15 : decode cX3_init 15 = .ok (.newarray .int, 2) := by decide +kernel
theorem dX3_init_17 : decode cX3_init 17 = .ok (.putfield 15, 3) := by decide +kernel
theorem dX3_init_20 : decode cX3_init 20 = .ok (.aload_n 0, 1) := by decide +kernel
theorem dX3_init_21 : decode cX3_init 21 = .ok (.bipush 24, 2) := by decide +kernel
theorem dX3_init_23 : decode cX3_init 23 = .ok (.newarray .int, 2) := by decide +kernel
theorem dX3_init_25 : decode cX3_init 25 = .ok (.putfield 18, 3) := by decide +kernel
theorem dX3_init_28 : decode cX3_init 28 = .ok (.aload_n 0, 1) := by decide +kernel
theorem dX3_init_29 : decode cX3_init 29 = .ok (.bipush 24, 2) := by decide +kernel
theorem dX3_init_31 : decode cX3_init 31 = .ok (.newarray .int, 2) := by decide +kernel
theorem dX3_init_33 : decode cX3_init 33 = .ok (.putfield 21, 3) := by decide +kernel
theorem dX3_init_36 : decode cX3_init 36 = .ok (.aload_n 0, 1) := by decide +kernel
theorem dX3_init_37 : decode cX3_init 37 = .ok (.bipush 24, 2) := by decide +kernel
theorem dX3_init_39 : decode cX3_init 39 = .ok (.newarray .int, 2) := by decide +kernel
theorem dX3_init_41 : decode cX3_init 41 = .ok (.putfield 24, 3) := by decide +kernel
theorem dX3_init_44 : decode cX3_init 44 = .ok (.aload_n 0, 1) := by decide +kernel
theorem dX3_init_45 : decode cX3_init 45 = .ok (.bipush 11, 2) := by decide +kernel
theorem dX3_init_47 : decode cX3_init 47 = .ok (.newarray .int, 2) := by decide +kernel
theorem dX3_init_49 : decode cX3_init 49 = .ok (.putfield 27, 3) := by decide +kernel
theorem dX3_init_52 : decode cX3_init 52 = .ok (.aload_n 0, 1) := by decide +kernel
theorem dX3_init_53 : decode cX3_init 53 = .ok (.iconst 2, 1) := by decide +kernel
theorem dX3_init_54 : decode cX3_init 54 = .ok (.putfield 30, 3) := by decide +kernel
theorem dX3_init_57 : decode cX3_init 57 = .ok (.return_, 1) := by decide +kernel
theorem dX3_clear_0 : decode cX3_clear 0 = .ok (.aload_n 0, 1) := by decide +kernel
theorem dX3_clear_1 : decode cX3_clear 1 = .ok (.iload_n 1, 1) := by decide +kernel
theorem dX3_clear_2 : decode cX3_clear 2 = .ok (.putfield 30, 3) := by decide +kernel
theorem dX3_clear_5 : decode cX3_clear 5 = .ok (.aload_n 0, 1) := by decide +kernel
theorem dX3_clear_6 : decode cX3_clear 6 = .ok (.iconst 0, 1) := by decide +kernel
theorem dX3_clear_7 : decode cX3_clear 7 = .ok (.putfield 34, 3) := by decide +kernel
theorem dX3_clear_10 : decode cX3_clear 10 = .ok (.aload_n 0, 1) := by decide +kernel
theorem dX3_clear_11 : decode cX3_clear 11 = .ok (.iconst 0, 1) := by decide +kernel
theorem dX3_clear_12 : decode cX3_clear 12 = .ok (.putfield 37, 3) := by decide +kernel
theorem dX3_clear_15 : decode cX3_clear 15 = .ok (.aload_n 0, 1) := by decide +kernel
theorem dX3_clear_16 : decode cX3_clear 16 = .ok (.iconst 0, 1) := by decide +kernel
theorem dX3_clear_17 : decode cX3_clear 17 = .ok (.putfield 40, 3) := by decide +kernel
theorem dX3_clear_20 : decode cX3_clear 20 = .ok (.aload_n 0, 1) := by decide +kernel
theorem dX3_clear_21 : decode cX3_clear 21 = .ok (.getfield 21, 3) := by decide +kernel
theorem dX3_clear_24 : decode cX3_clear 24 = .ok (.iconst 0, 1) := by decide +kernel
theorem dX3_clear_25 : decode cX3_clear 25 = .ok (.invokestatic 43, 3) := by decide +kernel
theorem dX3_clear_28 : decode cX3_clear 28 = .ok (.aload_n 0, 1) := by decide +kernel
theorem dX3_clear_29 : decode cX3_clear 29 = .ok (.invokevirtual 49, 3) := by decide +kernel
theorem dX3_clear_32 : decode cX3_clear 32 = .ok (.return_, 1) := by decide +kernel
theorem dX3_append_0 : decode cX3_append 0 = .ok (.aload_n 0, 1) := by decide +kernel
theorem dX3_append_1 : decode cX3_append 1 = .ok (.getfield 34, 3) := by decide +kernel
theorem dX3_append_4 : decode cX3_append 4 = .ok (.istore 4, 2) := by decide +kernel
theorem dX3_append_6 : decode cX3_append 6 = .ok (.aload_n 0, 1) := by decide +kernel
theorem dX3_append_7 : decode cX3_append 7 = .ok (.getfield 9, 3) := by decide +kernel
theorem dX3_append_10 : decode cX3_append 10 = .ok (.iload 4, 2) := by decide +kernel
theorem dX3_append_12 : decode cX3_append 12 = .ok (.iload_n 1, 1) := by decide +kernel
theorem dX3_append_13 : decode cX3_append 13 = .ok (.invokestatic 52, 3) := by decide +kernel
theorem dX3_append_16 : decode cX3_append 16 = .ok (.aload_n 0, 1) := by decide +kernel
theorem dX3_append_17 : decode cX3_append 17 = .ok (.getfield 15, 3) := by decide +kernel
theorem dX3_append_20 : decode cX3_append 20 = .ok (.iload 4, 2) := by decide +kernel
theorem dX3_append_22 : decode cX3_append 22 = .ok (.iload_n 2, 1) := by decide +kernel
theorem dX3_append_23 : decode cX3_append 23 = .ok (.invokestatic 52, 3) := by decide +kernel
theorem dX3_append_26 : decode cX3_append 26 = .ok (.aload_n 0, 1) := by decide +kernel
theorem dX3_append_27 : decode cX3_append 27 = .ok (.getfield 18, 3) := by decide +kernel
theorem dX3_append_30 : decode cX3_append 30 = .ok (.iload 4, 2) := by decide +kernel
theorem dX3_append_32 : decode cX3_append 32 = .ok (.iload_n 3, 1) := by decide +kernel
theorem dX3_append_33 : decode cX3_append 33 = .ok (.invokestatic 52, 3) := by decide +kernel
theorem dX3_append_36 : decode cX3_append 36 = .ok (.aload_n 0, 1) := by decide +kernel
theorem dX3_append_37 : decode cX3_append 37 = .ok (.dup, 1) := by decide +kernel
theorem dX3_append_38 : decode cX3_append 38 = .ok (.getfield 34, 3) := by decide +kernel
theorem dX3_append_41 : decode cX3_append 41 = .ok (.iconst 1, 1) := by decide +kernel
theorem dX3_append_42 : decode cX3_append 42 = .ok (.iadd, 1) := by decide +kernel
theorem dX3_append_43 : decode cX3_append 43 = .ok (.putfield 34, 3) := by decide +kernel
theorem dX3_append_46 : decode cX3_append 46 = .ok (.aload_n 0, 1) := by decide +kernel
theorem dX3_append_47 : decode cX3_append 47 = .ok (.invokevirtual 49, 3) := by decide +kernel
theorem dX3_append_50 : decode cX3_append 50 = .ok (.iload 4, 2) := by decide +kernel
theorem dX3_append_52 : decode cX3_append 52 = .ok (.ireturn, 1) := by decide +kernel
theorem dX3_changeLength_0 : decode cX3_changeLength 0 = .ok (.aload_n 0, 1) := by decide +kernel
theorem dX3_changeLength_1 : decode cX3_changeLength 1 = .ok (.iload_n 1, 1) := by decide +kernel
theorem dX3_changeLength_2 : decode cX3_changeLength 2 = .ok (.invokevirtual 56, 3) := by decide +kernel
theorem dX3_changeLength_5 : decode cX3_changeLength 5 = .ok (.istore_n 3, 1) := by decide +kernel
theorem dX3_changeLength_6 : decode cX3_changeLength 6 = .ok (.aload_n 0, 1) := by decide +kernel
theorem dX3_changeLength_7 : decode cX3_changeLength 7 = .ok (.getfield 18, 3) := by decide +kernel
theorem dX3_changeLength_10 : decode cX3_changeLength 10 = .ok (.iload_n 1, 1) := by decide +kernel
theorem dX3_changeLength_11 : decode cX3_changeLength 11 = .ok (.iload_n 2, 1) := by decide +kernel
theorem dX3_changeLength_12 : decode cX3_changeLength 12 = .ok (.invokestatic 52, 3) := by decide +kernel
theorem dX3_changeLength_15 : decode cX3_changeLength 15 = .ok (.iload_n 3, 1) := by decide +kernel
theorem dX3_changeLength_16 : decode cX3_changeLength 16 = .ok (.ireturn, 1) := by decide +kernel
theorem dX3_switchEdge_0 : decode cX3_switchEdge 0 = .ok (.aload_n 0, 1) := by decide +kernel
theorem dX3_switchEdge_1 : decode cX3_switchEdge 1 = .ok (.dup, 1) := by decide +kernel
theorem dX3_switchEdge_2 : decode cX3_switchEdge 2 = .ok (.getfield 40, 3) := by decide +kernel
theorem dX3_switchEdge_5 : decode cX3_switchEdge 5 = .ok (.iconst 1, 1) := by decide +kernel
theorem dX3_switchEdge_6 : decode cX3_switchEdge 6 = .ok (.iload_n 1, 1) := by decide +kernel
theorem dX3_switchEdge_7 : decode cX3_switchEdge 7 = .ok (.ishl, 1) := by decide +kernel
theorem dX3_switchEdge_8 : decode cX3_switchEdge 8 = .ok (.ixor, 1) := by decide +kernel
theorem dX3_switchEdge_9 : decode cX3_switchEdge 9 = .ok (.putfield 40, 3) := by decide +kernel
theorem dX3_switchEdge_12 : decode cX3_switchEdge 12 = .ok (.aload_n 0, 1) := by decide +kernel
theorem dX3_switchEdge_13 : decode cX3_switchEdge 13 = .ok (.invokevirtual 49, 3) := by decide +kernel
theorem dX3_switchEdge_16 : decode cX3_switchEdge 16 = .ok (.aload_n 0, 1) := by decide +kernel
theorem dX3_switchEdge_17 : decode cX3_switchEdge 17 = .ok (.getfield 40, 3) := by decide +kernel
theorem dX3_switchEdge_20 : decode cX3_switchEdge 20 = .ok (.iload_n 1, 1) := by decide +kernel
theorem dX3_switchEdge_21 : decode cX3_switchEdge 21 = .ok (.invokestatic 60, 3) := by decide +kernel
theorem dX3_switchEdge_24 : decode cX3_switchEdge 24 = .ok (.ireturn, 1) := by decide +kernel
theorem dX3_switchNode_0 : decode cX3_switchNode 0 = .ok (.aload_n 0, 1) := by decide +kernel
theorem dX3_switchNode_1 : decode cX3_switchNode 1 = .ok (.dup, 1) := by decide +kernel
theorem dX3_switchNode_2 : decode cX3_switchNode 2 = .ok (.getfield 37, 3) := by decide +kernel
theorem dX3_switchNode_5 : decode cX3_switchNode 5 = .ok (.iconst 1, 1) := by decide +kernel
theorem dX3_switchNode_6 : decode cX3_switchNode 6 = .ok (.iload_n 1, 1) := by decide +kernel
theorem dX3_switchNode_7 : decode cX3_switchNode 7 = .ok (.ishl, 1) := by decide +kernel
theorem dX3_switchNode_8 : decode cX3_switchNode 8 = .ok (.ixor, 1) := by decide +kernel
theorem dX3_switchNode_9 : decode cX3_switchNode 9 = .ok (.putfield 37, 3) := by decide +kernel
theorem dX3_switchNode_12 : decode cX3_switchNode 12 = .ok (.aload_n 0, 1) := by decide +kernel
theorem dX3_switchNode_13 : decode cX3_switchNode 13 = .ok (.invokevirtual 49, 3) := by decide +kernel
theorem dX3_switchNode_16 : decode cX3_switchNode 16 = .ok (.aload_n 0, 1) := by decide +kernel
theorem dX3_switchNode_17 : decode cX3_switchNode 17 = .ok (.getfield 37, 3) := by decide +kernel
theorem dX3_switchNode_20 : decode cX3_switchNode 20 = .ok (.iload_n 1, 1) := by decide +kernel
theorem dX3_switchNode_21 : decode cX3_switchNode 21 = .ok (.invokestatic 60, 3) := by decide +kernel
theorem dX3_switchNode_24 : decode cX3_switchNode 24 = .ok (.ireturn, 1) := by decide +kernel
theorem dX3_switchTurn_0 : decode cX3_switchTurn 0 = .ok (.aload_n 0, 1) := by decide +kernel
theorem dX3_switchTurn_1 : decode cX3_switchTurn 1 = .ok (.getfield 21, 3) := by decide +kernel
theorem dX3_switchTurn_4 : decode cX3_switchTurn 4 = .ok (.iload_n 1, 1) := by decide +kernel
theorem dX3_switchTurn_5 : decode cX3_switchTurn 5 = .ok (.aload_n 0, 1) := by decide +kernel
theorem dX3_switchTurn_6 : decode cX3_switchTurn 6 = .ok (.getfield 21, 3) := by decide +kernel
theorem dX3_switchTurn_9 : decode cX3_switchTurn 9 = .ok (.iload_n 1, 1) := by decide +kernel
theorem dX3_switchTurn_10 : decode cX3_switchTurn 10 = .ok (.invokestatic 64, 3) := by decide +kernel
theorem dX3_switchTurn_13 : decode cX3_switchTurn 13 = .ok (.iconst 1, 1) := by decide +kernel
theorem dX3_switchTurn_14 : decode cX3_switchTurn 14 = .ok (.iload_n 2, 1) := by decide +kernel
theorem dX3_switchTurn_15 : decode cX3_switchTurn 15 = .ok (.ishl, 1) := by decide +kernel
theorem dX3_switchTurn_16 : decode cX3_switchTurn 16 = .ok (.ixor, 1) := by decide +kernel
theorem dX3_switchTurn_17 : decode cX3_switchTurn 17 = .ok (.invokestatic 52, 3) := by decide +kernel
theorem dX3_switchTurn_20 : decode cX3_switchTurn 20 = .ok (.aload_n 0, 1) := by decide +kernel
theorem dX3_switchTurn_21 : decode cX3_switchTurn 21 = .ok (.iload_n 1, 1) := by decide +kernel
theorem dX3_switchTurn_22 : decode cX3_switchTurn 22 = .ok (.iload_n 2, 1) := by decide +kernel
theorem dX3_switchTurn_23 : decode cX3_switchTurn 23 = .ok (.invokevirtual 68, 3) := by decide +kernel
theorem dX3_switchTurn_26 : decode cX3_switchTurn 26 = .ok (.ireturn, 1) := by decide +kernel
theorem dX3_listOutEdges_0 : decode cX3_listOutEdges 0 = .ok (.iconst 0, 1) := by decide +kernel
theorem dX3_listOutEdges_1 : decode cX3_listOutEdges 1 = .ok (.istore_n 1, 1) := by decide +kernel
theorem dX3_listOutEdges_2 : decode cX3_listOutEdges 2 = .ok (.iconst 0, 1) := by decide +kernel
theorem dX3_listOutEdges_3 : decode cX3_listOutEdges 3 = .ok (.istore_n 2, 1) := by decide +kernel
theorem dX3_listOutEdges_4 : decode cX3_listOutEdges 4 = .ok (.iload_n 2, 1) := by decide +kernel
theorem dX3_listOutEdges_5 : decode cX3_listOutEdges 5 = .ok (.bipush 10, 2) := by decide +kernel
theorem dX3_listOutEdges_7 : decode cX3_listOutEdges 7 = .ok (.if_icmp .ge 63, 3) := by decide +kernel
theorem dX3_listOutEdges_10 : decode cX3_listOutEdges 10 = .ok (.aload_n 0, 1) := by decide +kernel
theorem dX3_listOutEdges_11 : decode cX3_listOutEdges 11 = .ok (.getfield 27, 3) := by decide +kernel
theorem dX3_listOutEdges_14 : decode cX3_listOutEdges 14 = .ok (.iload_n 2, 1) := by decide +kernel
theorem dX3_listOutEdges_15 : decode cX3_listOutEdges 15 = .ok (.iload_n 1, 1) := by decide +kernel
theorem dX3_listOutEdges_16 : decode cX3_listOutEdges 16 = .ok (.invokestatic 52, 3) := by decide +kernel
theorem dX3_listOutEdges_19 : decode cX3_listOutEdges 19 = .ok (.iconst 0, 1) := by decide +kernel
theorem dX3_listOutEdges_20 : decode cX3_listOutEdges 20 = .ok (.istore_n 3, 1) := by decide +kernel
theorem dX3_listOutEdges_21 : decode cX3_listOutEdges 21 = .ok (.iload_n 3, 1) := by decide +kernel
theorem dX3_listOutEdges_22 : decode cX3_listOutEdges 22 = .ok (.aload_n 0, 1) := by decide +kernel
theorem dX3_listOutEdges_23 : decode cX3_listOutEdges 23 = .ok (.getfield 34, 3) := by decide +kernel
theorem dX3_listOutEdges_26 : decode cX3_listOutEdges 26 = .ok (.if_icmp .ge 38, 3) := by decide +kernel
theorem dX3_listOutEdges_29 : decode cX3_listOutEdges 29 = .ok (.aload_n 0, 1) := by decide +kernel
theorem dX3_listOutEdges_30 : decode cX3_listOutEdges 30 = .ok (.iload_n 3, 1) := by decide +kernel
theorem dX3_listOutEdges_31 : decode cX3_listOutEdges 31 = .ok (.invokevirtual 71, 3) := by decide +kernel
theorem dX3_listOutEdges_34 : decode cX3_listOutEdges 34 = .ok (.iload_n 2, 1) := by decide +kernel
theorem dX3_listOutEdges_35 : decode cX3_listOutEdges 35 = .ok (.if_icmp .ne 23, 3) := by decide +kernel
theorem dX3_listOutEdges_38 : decode cX3_listOutEdges 38 = .ok (.aload_n 0, 1) := by decide +kernel
theorem dX3_listOutEdges_39 : decode cX3_listOutEdges 39 = .ok (.iload_n 3, 1) := by decide +kernel
theorem dX3_listOutEdges_40 : decode cX3_listOutEdges 40 = .ok (.invokevirtual 74, 3) := by decide +kernel
theorem dX3_listOutEdges_43 : decode cX3_listOutEdges 43 = .ok (.ifCond .eq 15, 3) := by decide +kernel
theorem dX3_listOutEdges_46 : decode cX3_listOutEdges 46 = .ok (.aload_n 0, 1) := by decide +kernel
theorem dX3_listOutEdges_47 : decode cX3_listOutEdges 47 = .ok (.getfield 24, 3) := by decide +kernel
theorem dX3_listOutEdges_50 : decode cX3_listOutEdges 50 = .ok (.iload_n 1, 1) := by decide +kernel
theorem dX3_listOutEdges_51 : decode cX3_listOutEdges 51 = .ok (.iload_n 3, 1) := by decide +kernel
theorem dX3_listOutEdges_52 : decode cX3_listOutEdges 52 = .ok (.invokestatic 52, 3) := by decide +kernel
theorem dX3_listOutEdges_55 : decode cX3_listOutEdges 55 = .ok (.iinc 1 1, 3) := by decide +kernel
theorem dX3_listOutEdges_58 : decode cX3_listOutEdges 58 = .ok (.iinc 3 1, 3) := by decide +kernel
theorem dX3_listOutEdges_61 : decode cX3_listOutEdges 61 = .ok (.goto (-40), 3) := by decide +kernel
theorem dX3_listOutEdges_64 : decode cX3_listOutEdges 64 = .ok (.iinc 2 1, 3) := by decide +kernel
theorem dX3_listOutEdges_67 : decode cX3_listOutEdges 67 = .ok (.goto (-63), 3) := by decide +kernel
theorem dX3_listOutEdges_70 : decode cX3_listOutEdges 70 = .ok (.aload_n 0, 1) := by decide +kernel
theorem dX3_listOutEdges_71 : decode cX3_listOutEdges 71 = .ok (.getfield 27, 3) := by decide +kernel
theorem dX3_listOutEdges_74 : decode cX3_listOutEdges 74 = .ok (.bipush 10, 2) := by decide +kernel
theorem dX3_listOutEdges_76 : decode cX3_listOutEdges 76 = .ok (.iload_n 1, 1) := by decide +kernel
theorem dX3_listOutEdges_77 : decode cX3_listOutEdges 77 = .ok (.invokestatic 52, 3) := by decide +kernel
theorem dX3_listOutEdges_80 : decode cX3_listOutEdges 80 = .ok (.return_, 1) := by decide +kernel
theorem dX3_isUsable_0 : decode cX3_isUsable 0 = .ok (.aload_n 0, 1) := by decide +kernel
theorem dX3_isUsable_1 : decode cX3_isUsable 1 = .ok (.getfield 37, 3) := by decide +kernel
theorem dX3_isUsable_4 : decode cX3_isUsable 4 = .ok (.aload_n 0, 1) := by decide +kernel
theorem dX3_isUsable_5 : decode cX3_isUsable 5 = .ok (.iload_n 1, 1) := by decide +kernel
theorem dX3_isUsable_6 : decode cX3_isUsable 6 = .ok (.invokevirtual 71, 3) := by decide +kernel
theorem dX3_isUsable_9 : decode cX3_isUsable 9 = .ok (.invokestatic 60, 3) := by decide +kernel
theorem dX3_isUsable_12 : decode cX3_isUsable 12 = .ok (.ifCond .ne 18, 3) := by decide +kernel
theorem dX3_isUsable_15 : decode cX3_isUsable 15 = .ok (.aload_n 0, 1) := by decide +kernel
theorem dX3_isUsable_16 : decode cX3_isUsable 16 = .ok (.getfield 37, 3) := by decide +kernel
theorem dX3_isUsable_19 : decode cX3_isUsable 19 = .ok (.aload_n 0, 1) := by decide +kernel
theorem dX3_isUsable_20 : decode cX3_isUsable 20 = .ok (.iload_n 1, 1) := by decide +kernel
theorem dX3_isUsable_21 : decode cX3_isUsable 21 = .ok (.invokevirtual 78, 3) := by decide +kernel
theorem dX3_isUsable_24 : decode cX3_isUsable 24 = .ok (.invokestatic 60, 3) := by decide +kernel
theorem dX3_isUsable_27 : decode cX3_isUsable 27 = .ok (.ifCond .eq 7, 3) := by decide +kernel
theorem dX3_isUsable_30 : decode cX3_isUsable 30 = .ok (.iconst 1, 1) := by decide +kernel
theorem dX3_isUsable_31 : decode cX3_isUsable 31 = .ok (.goto 4, 3) := by decide +kernel
theorem dX3_isUsable_34 : decode cX3_isUsable 34 = .ok (.iconst 0, 1) := by decide +kernel
theorem dX3_isUsable_35 : decode cX3_isUsable 35 = .ok (.istore_n 2, 1) := by decide +kernel
theorem dX3_isUsable_36 : decode cX3_isUsable 36 = .ok (.iload_n 2, 1) := by decide +kernel
theorem dX3_isUsable_37 : decode cX3_isUsable 37 = .ok (.ifCond .ne 18, 3) := by decide +kernel
theorem dX3_isUsable_40 : decode cX3_isUsable 40 = .ok (.aload_n 0, 1) := by decide +kernel
theorem dX3_isUsable_41 : decode cX3_isUsable 41 = .ok (.getfield 40, 3) := by decide +kernel
theorem dX3_isUsable_44 : decode cX3_isUsable 44 = .ok (.iload_n 1, 1) := by decide +kernel
theorem dX3_isUsable_45 : decode cX3_isUsable 45 = .ok (.invokestatic 60, 3) := by decide +kernel
theorem dX3_isUsable_48 : decode cX3_isUsable 48 = .ok (.ifCond .ne 7, 3) := by decide +kernel
theorem dX3_isUsable_51 : decode cX3_isUsable 51 = .ok (.iconst 1, 1) := by decide +kernel
theorem dX3_isUsable_52 : decode cX3_isUsable 52 = .ok (.goto 4, 3) := by decide +kernel
theorem dX3_isUsable_55 : decode cX3_isUsable 55 = .ok (.iconst 0, 1) := by decide +kernel
theorem dX3_isUsable_56 : decode cX3_isUsable 56 = .ok (.ireturn, 1) := by decide +kernel
theorem dX3_hasNode_0 : decode cX3_hasNode 0 = .ok (.iload_n 1, 1) := by decide +kernel
theorem dX3_hasNode_1 : decode cX3_hasNode 1 = .ok (.ifCond .lt 15, 3) := by decide +kernel
theorem dX3_hasNode_4 : decode cX3_hasNode 4 = .ok (.iload_n 1, 1) := by decide +kernel
theorem dX3_hasNode_5 : decode cX3_hasNode 5 = .ok (.aload_n 0, 1) := by decide +kernel
theorem dX3_hasNode_6 : decode cX3_hasNode 6 = .ok (.getfield 30, 3) := by decide +kernel
theorem dX3_hasNode_9 : decode cX3_hasNode 9 = .ok (.if_icmp .ge 7, 3) := by decide +kernel
theorem dX3_hasNode_12 : decode cX3_hasNode 12 = .ok (.iconst 1, 1) := by decide +kernel
theorem dX3_hasNode_13 : decode cX3_hasNode 13 = .ok (.goto 4, 3) := by decide +kernel
theorem dX3_hasNode_16 : decode cX3_hasNode 16 = .ok (.iconst 0, 1) := by decide +kernel
theorem dX3_hasNode_17 : decode cX3_hasNode 17 = .ok (.ireturn, 1) := by decide +kernel
theorem dX3_hasEdge_0 : decode cX3_hasEdge 0 = .ok (.iload_n 1, 1) := by decide +kernel
theorem dX3_hasEdge_1 : decode cX3_hasEdge 1 = .ok (.ifCond .lt 15, 3) := by decide +kernel
theorem dX3_hasEdge_4 : decode cX3_hasEdge 4 = .ok (.iload_n 1, 1) := by decide +kernel
theorem dX3_hasEdge_5 : decode cX3_hasEdge 5 = .ok (.aload_n 0, 1) := by decide +kernel
theorem dX3_hasEdge_6 : decode cX3_hasEdge 6 = .ok (.getfield 34, 3) := by decide +kernel
theorem dX3_hasEdge_9 : decode cX3_hasEdge 9 = .ok (.if_icmp .ge 7, 3) := by decide +kernel
theorem dX3_hasEdge_12 : decode cX3_hasEdge 12 = .ok (.iconst 1, 1) := by decide +kernel
theorem dX3_hasEdge_13 : decode cX3_hasEdge 13 = .ok (.goto 4, 3) := by decide +kernel
theorem dX3_hasEdge_16 : decode cX3_hasEdge 16 = .ok (.iconst 0, 1) := by decide +kernel
theorem dX3_hasEdge_17 : decode cX3_hasEdge 17 = .ok (.ireturn, 1) := by decide +kernel
theorem dX3_hasRoom_0 : decode cX3_hasRoom 0 = .ok (.aload_n 0, 1) := by decide +kernel
theorem dX3_hasRoom_1 : decode cX3_hasRoom 1 = .ok (.getfield 34, 3) := by decide +kernel
theorem dX3_hasRoom_4 : decode cX3_hasRoom 4 = .ok (.bipush 24, 2) := by decide +kernel
theorem dX3_hasRoom_6 : decode cX3_hasRoom 6 = .ok (.if_icmp .ge 7, 3) := by decide +kernel
theorem dX3_hasRoom_9 : decode cX3_hasRoom 9 = .ok (.iconst 1, 1) := by decide +kernel
theorem dX3_hasRoom_10 : decode cX3_hasRoom 10 = .ok (.goto 4, 3) := by decide +kernel
theorem dX3_hasRoom_13 : decode cX3_hasRoom 13 = .ok (.iconst 0, 1) := by decide +kernel
theorem dX3_hasRoom_14 : decode cX3_hasRoom 14 = .ok (.ireturn, 1) := by decide +kernel
theorem dX3_isForbidden_0 : decode cX3_isForbidden 0 = .ok (.aload_n 0, 1) := by decide +kernel
theorem dX3_isForbidden_1 : decode cX3_isForbidden 1 = .ok (.getfield 21, 3) := by decide +kernel
theorem dX3_isForbidden_4 : decode cX3_isForbidden 4 = .ok (.iload_n 1, 1) := by decide +kernel
theorem dX3_isForbidden_5 : decode cX3_isForbidden 5 = .ok (.invokestatic 64, 3) := by decide +kernel
theorem dX3_isForbidden_8 : decode cX3_isForbidden 8 = .ok (.iload_n 2, 1) := by decide +kernel
theorem dX3_isForbidden_9 : decode cX3_isForbidden 9 = .ok (.invokestatic 60, 3) := by decide +kernel
theorem dX3_isForbidden_12 : decode cX3_isForbidden 12 = .ok (.ireturn, 1) := by decide +kernel
theorem dX3_nodeTotal_0 : decode cX3_nodeTotal 0 = .ok (.aload_n 0, 1) := by decide +kernel
theorem dX3_nodeTotal_1 : decode cX3_nodeTotal 1 = .ok (.getfield 30, 3) := by decide +kernel
theorem dX3_nodeTotal_4 : decode cX3_nodeTotal 4 = .ok (.ireturn, 1) := by decide +kernel
theorem dX3_edgeTotal_0 : decode cX3_edgeTotal 0 = .ok (.aload_n 0, 1) := by decide +kernel
theorem dX3_edgeTotal_1 : decode cX3_edgeTotal 1 = .ok (.getfield 34, 3) := by decide +kernel
theorem dX3_edgeTotal_4 : decode cX3_edgeTotal 4 = .ok (.ireturn, 1) := by decide +kernel
theorem dX3_usableTotal_0 : decode cX3_usableTotal 0 = .ok (.aload_n 0, 1) := by decide +kernel
theorem dX3_usableTotal_1 : decode cX3_usableTotal 1 = .ok (.getfield 27, 3) := by decide +kernel
theorem dX3_usableTotal_4 : decode cX3_usableTotal 4 = .ok (.bipush 10, 2) := by decide +kernel
theorem dX3_usableTotal_6 : decode cX3_usableTotal 6 = .ok (.invokestatic 64, 3) := by decide +kernel
theorem dX3_usableTotal_9 : decode cX3_usableTotal 9 = .ok (.ireturn, 1) := by decide +kernel
theorem dX3_tailOf_0 : decode cX3_tailOf 0 = .ok (.aload_n 0, 1) := by decide +kernel
theorem dX3_tailOf_1 : decode cX3_tailOf 1 = .ok (.getfield 9, 3) := by decide +kernel
theorem dX3_tailOf_4 : decode cX3_tailOf 4 = .ok (.iload_n 1, 1) := by decide +kernel
theorem dX3_tailOf_5 : decode cX3_tailOf 5 = .ok (.invokestatic 64, 3) := by decide +kernel
theorem dX3_tailOf_8 : decode cX3_tailOf 8 = .ok (.ireturn, 1) := by decide +kernel
theorem dX3_headOf_0 : decode cX3_headOf 0 = .ok (.aload_n 0, 1) := by decide +kernel
theorem dX3_headOf_1 : decode cX3_headOf 1 = .ok (.getfield 15, 3) := by decide +kernel
theorem dX3_headOf_4 : decode cX3_headOf 4 = .ok (.iload_n 1, 1) := by decide +kernel
theorem dX3_headOf_5 : decode cX3_headOf 5 = .ok (.invokestatic 64, 3) := by decide +kernel
theorem dX3_headOf_8 : decode cX3_headOf 8 = .ok (.ireturn, 1) := by decide +kernel
theorem dX3_lengthOf_0 : decode cX3_lengthOf 0 = .ok (.aload_n 0, 1) := by decide +kernel
theorem dX3_lengthOf_1 : decode cX3_lengthOf 1 = .ok (.getfield 18, 3) := by decide +kernel
theorem dX3_lengthOf_4 : decode cX3_lengthOf 4 = .ok (.iload_n 1, 1) := by decide +kernel
theorem dX3_lengthOf_5 : decode cX3_lengthOf 5 = .ok (.invokestatic 64, 3) := by decide +kernel
theorem dX3_lengthOf_8 : decode cX3_lengthOf 8 = .ok (.ireturn, 1) := by decide +kernel
theorem dX3_outEdge_0 : decode cX3_outEdge 0 = .ok (.aload_n 0, 1) := by decide +kernel
theorem dX3_outEdge_1 : decode cX3_outEdge 1 = .ok (.getfield 24, 3) := by decide +kernel
theorem dX3_outEdge_4 : decode cX3_outEdge 4 = .ok (.iload_n 1, 1) := by decide +kernel
theorem dX3_outEdge_5 : decode cX3_outEdge 5 = .ok (.invokestatic 64, 3) := by decide +kernel
theorem dX3_outEdge_8 : decode cX3_outEdge 8 = .ok (.ireturn, 1) := by decide +kernel
theorem dX3_outStart_0 : decode cX3_outStart 0 = .ok (.aload_n 0, 1) := by decide +kernel
theorem dX3_outStart_1 : decode cX3_outStart 1 = .ok (.getfield 27, 3) := by decide +kernel
theorem dX3_outStart_4 : decode cX3_outStart 4 = .ok (.iload_n 1, 1) := by decide +kernel
theorem dX3_outStart_5 : decode cX3_outStart 5 = .ok (.invokestatic 64, 3) := by decide +kernel
theorem dX3_outStart_8 : decode cX3_outStart 8 = .ok (.ireturn, 1) := by decide +kernel
theorem dX3_outEnd_0 : decode cX3_outEnd 0 = .ok (.aload_n 0, 1) := by decide +kernel
theorem dX3_outEnd_1 : decode cX3_outEnd 1 = .ok (.getfield 27, 3) := by decide +kernel
theorem dX3_outEnd_4 : decode cX3_outEnd 4 = .ok (.iload_n 1, 1) := by decide +kernel
theorem dX3_outEnd_5 : decode cX3_outEnd 5 = .ok (.iconst 1, 1) := by decide +kernel
theorem dX3_outEnd_6 : decode cX3_outEnd 6 = .ok (.iadd, 1) := by decide +kernel
theorem dX3_outEnd_7 : decode cX3_outEnd 7 = .ok (.invokestatic 64, 3) := by decide +kernel
theorem dX3_outEnd_10 : decode cX3_outEnd 10 = .ok (.ireturn, 1) := by decide +kernel
theorem dX4_init_0 : decode cX4_init 0 = .ok (.aload_n 0, 1) := by decide +kernel
theorem dX4_init_1 : decode cX4_init 1 = .ok (.invokespecial 3, 3) := by decide +kernel
theorem dX4_init_4 : decode cX4_init 4 = .ok (.aload_n 0, 1) := by decide +kernel
theorem dX4_init_5 : decode cX4_init 5 = .ok (.aload_n 1, 1) := by decide +kernel
theorem dX4_init_6 : decode cX4_init 6 = .ok (.putfield 9, 3) := by decide +kernel
theorem dX4_init_9 : decode cX4_init 9 = .ok (.aload_n 0, 1) := by decide +kernel
theorem dX4_init_10 : decode cX4_init 10 = .ok (.new 15, 3) := by decide +kernel
theorem dX4_init_13 : decode cX4_init 13 = .ok (.dup, 1) := by decide +kernel
theorem dX4_init_14 : decode cX4_init 14 = .ok (.aload_n 1, 1) := by decide +kernel
theorem dX4_init_15 : decode cX4_init 15 = .ok (.invokespecial 17, 3) := by decide +kernel
theorem dX4_init_18 : decode cX4_init 18 = .ok (.putfield 20, 3) := by decide +kernel
theorem dX4_init_21 : decode cX4_init 21 = .ok (.return_, 1) := by decide +kernel
theorem dX4_upTo_0 : decode cX4_upTo 0 = .ok (.aload_n 0, 1) := by decide +kernel
theorem dX4_upTo_1 : decode cX4_upTo 1 = .ok (.iload_n 2, 1) := by decide +kernel
theorem dX4_upTo_2 : decode cX4_upTo 2 = .ok (.putfield 24, 3) := by decide +kernel
theorem dX4_upTo_5 : decode cX4_upTo 5 = .ok (.aload_n 0, 1) := by decide +kernel
theorem dX4_upTo_6 : decode cX4_upTo 6 = .ok (.getfield 20, 3) := by decide +kernel
theorem dX4_upTo_9 : decode cX4_upTo 9 = .ok (.iload_n 2, 1) := by decide +kernel
theorem dX4_upTo_10 : decode cX4_upTo 10 = .ok (.invokevirtual 28, 3) := by decide +kernel
theorem dX4_upTo_13 : decode cX4_upTo 13 = .ok (.aload_n 0, 1) := by decide +kernel
theorem dX4_upTo_14 : decode cX4_upTo 14 = .ok (.iload_n 1, 1) := by decide +kernel
theorem dX4_upTo_15 : decode cX4_upTo 15 = .ok (.iconst 1, 1) := by decide +kernel
theorem dX4_upTo_16 : decode cX4_upTo 16 = .ok (.iload_n 1, 1) := by decide +kernel
theorem dX4_upTo_17 : decode cX4_upTo 17 = .ok (.ishl, 1) := by decide +kernel
theorem dX4_upTo_18 : decode cX4_upTo 18 = .ok (.iload_n 3, 1) := by decide +kernel
theorem dX4_upTo_19 : decode cX4_upTo 19 = .ok (.iconst 0, 1) := by decide +kernel
theorem dX4_upTo_20 : decode cX4_upTo 20 = .ok (.invokestatic 32, 3) := by decide +kernel
theorem dX4_upTo_23 : decode cX4_upTo 23 = .ok (.ireturn, 1) := by decide +kernel
theorem dX4_countFrom_0 : decode cX4_countFrom 0 = .ok (.iload 4, 2) := by decide +kernel
theorem dX4_countFrom_2 : decode cX4_countFrom 2 = .ok (.bipush 9, 2) := by decide +kernel
theorem dX4_countFrom_4 : decode cX4_countFrom 4 = .ok (.if_icmp .lt 5, 3) := by decide +kernel
theorem dX4_countFrom_7 : decode cX4_countFrom 7 = .ok (.iconst 0, 1) := by decide +kernel
theorem dX4_countFrom_8 : decode cX4_countFrom 8 = .ok (.ireturn, 1) := by decide +kernel
theorem dX4_countFrom_9 : decode cX4_countFrom 9 = .ok (.aload_n 0, 1) := by decide +kernel
theorem dX4_countFrom_10 : decode cX4_countFrom 10 = .ok (.getfield 9, 3) := by decide +kernel
theorem dX4_countFrom_13 : decode cX4_countFrom 13 = .ok (.astore 5, 2) := by decide +kernel
theorem dX4_countFrom_15 : decode cX4_countFrom 15 = .ok (.iconst 0, 1) := by decide +kernel
theorem dX4_countFrom_16 : decode cX4_countFrom 16 = .ok (.istore 6, 2) := by decide +kernel
theorem dX4_countFrom_18 : decode cX4_countFrom 18 = .ok (.aload 5, 2) := by decide +kernel
theorem dX4_countFrom_20 : decode cX4_countFrom 20 = .ok (.iload_n 1, 1) := by decide +kernel
theorem dX4_countFrom_21 : decode cX4_countFrom 21 = .ok (.invokevirtual 36, 3) := by decide +kernel
theorem dX4_countFrom_24 : decode cX4_countFrom 24 = .ok (.istore 7, 2) := by decide +kernel
theorem dX4_countFrom_26 : decode cX4_countFrom 26 = .ok (.iload 7, 2) := by decide +kernel
theorem dX4_countFrom_28 : decode cX4_countFrom 28 = .ok (.aload 5, 2) := by decide +kernel
theorem dX4_countFrom_30 : decode cX4_countFrom 30 = .ok (.iload_n 1, 1) := by decide +kernel
theorem dX4_countFrom_31 : decode cX4_countFrom 31 = .ok (.invokevirtual 42, 3) := by decide +kernel
theorem dX4_countFrom_34 : decode cX4_countFrom 34 = .ok (.if_icmp .ge 100, 3) := by decide +kernel
theorem dX4_countFrom_37 : decode cX4_countFrom 37 = .ok (.aload 5, 2) := by decide +kernel
theorem dX4_countFrom_39 : decode cX4_countFrom 39 = .ok (.iload 7, 2) := by decide +kernel
theorem dX4_countFrom_41 : decode cX4_countFrom 41 = .ok (.invokevirtual 45, 3) := by decide +kernel
theorem dX4_countFrom_44 : decode cX4_countFrom 44 = .ok (.istore 8, 2) := by decide +kernel
theorem dX4_countFrom_46 : decode cX4_countFrom 46 = .ok (.aload 5, 2) := by decide +kernel
theorem dX4_countFrom_48 : decode cX4_countFrom 48 = .ok (.iload 8, 2) := by decide +kernel
theorem dX4_countFrom_50 : decode cX4_countFrom 50 = .ok (.invokevirtual 48, 3) := by decide +kernel
theorem dX4_countFrom_53 : decode cX4_countFrom 53 = .ok (.istore 9, 2) := by decide +kernel
theorem dX4_countFrom_55 : decode cX4_countFrom 55 = .ok (.iload_n 3, 1) := by decide +kernel
theorem dX4_countFrom_56 : decode cX4_countFrom 56 = .ok (.aload 5, 2) := by decide +kernel
theorem dX4_countFrom_58 : decode cX4_countFrom 58 = .ok (.iload 8, 2) := by decide +kernel
theorem dX4_countFrom_60 : decode cX4_countFrom 60 = .ok (.invokevirtual 51, 3) := by decide +kernel
theorem dX4_countFrom_63 : decode cX4_countFrom 63 = .ok (.isub, 1) := by decide +kernel
theorem dX4_countFrom_64 : decode cX4_countFrom 64 = .ok (.istore 10, 2) := by decide +kernel
theorem dX4_countFrom_66 : decode cX4_countFrom 66 = .ok (.iload_n 2, 1) := by decide +kernel
theorem dX4_countFrom_67 : decode cX4_countFrom 67 = .ok (.iload 9, 2) := by decide +kernel
theorem dX4_countFrom_69 : decode cX4_countFrom 69 = .ok (.invokestatic 54, 3) := by decide +kernel
theorem dX4_countFrom_72 : decode cX4_countFrom 72 = .ok (.ifCond .ne 56, 3) := by decide +kernel
theorem dX4_countFrom_75 : decode cX4_countFrom 75 = .ok (.aload_n 0, 1) := by decide +kernel
theorem dX4_countFrom_76 : decode cX4_countFrom 76 = .ok (.getfield 20, 3) := by decide +kernel
theorem dX4_countFrom_79 : decode cX4_countFrom 79 = .ok (.iload 9, 2) := by decide +kernel
theorem dX4_countFrom_81 : decode cX4_countFrom 81 = .ok (.invokevirtual 58, 3) := by decide +kernel
theorem dX4_countFrom_84 : decode cX4_countFrom 84 = .ok (.iload 10, 2) := by decide +kernel
theorem dX4_countFrom_86 : decode cX4_countFrom 86 = .ok (.if_icmp .le 6, 3) := by decide +kernel
theorem dX4_countFrom_89 : decode cX4_countFrom 89 = .ok (.goto 39, 3) := by decide +kernel
theorem dX4_countFrom_92 : decode cX4_countFrom 92 = .ok (.iload 6, 2) := by decide +kernel
theorem dX4_countFrom_94 : decode cX4_countFrom 94 = .ok (.iload 9, 2) := by decide +kernel
theorem dX4_countFrom_96 : decode cX4_countFrom 96 = .ok (.aload_n 0, 1) := by decide +kernel
theorem dX4_countFrom_97 : decode cX4_countFrom 97 = .ok (.getfield 24, 3) := by decide +kernel
theorem dX4_countFrom_100 : decode cX4_countFrom 100 = .ok (.if_icmp .ne 7, 3) := by decide +kernel
theorem dX4_countFrom_103 : decode cX4_countFrom 103 = .ok (.iconst 1, 1) := by decide +kernel
theorem dX4_countFrom_104 : decode cX4_countFrom 104 = .ok (.goto 21, 3) := by decide +kernel
theorem dX4_countFrom_107 : decode cX4_countFrom 107 = .ok (.aload_n 0, 1) := by decide +kernel
theorem dX4_countFrom_108 : decode cX4_countFrom 108 = .ok (.iload 9, 2) := by decide +kernel
theorem dX4_countFrom_110 : decode cX4_countFrom 110 = .ok (.iload_n 2, 1) := by decide +kernel
theorem dX4_countFrom_111 : decode cX4_countFrom 111 = .ok (.iconst 1, 1) := by decide +kernel
theorem dX4_countFrom_112 : decode cX4_countFrom 112 = .ok (.iload 9, 2) := by decide +kernel
theorem dX4_countFrom_114 : decode cX4_countFrom 114 = .ok (.ishl, 1) := by decide +kernel
theorem dX4_countFrom_115 : decode cX4_countFrom 115 = .ok (.ior, 1) := by decide +kernel
theorem dX4_countFrom_116 : decode cX4_countFrom 116 = .ok (.iload 10, 2) := by decide +kernel
theorem dX4_countFrom_118 : decode cX4_countFrom 118 = .ok (.iload 4, 2) := by decide +kernel
theorem dX4_countFrom_120 : decode cX4_countFrom 120 = .ok (.iconst 1, 1) := by decide +kernel
theorem dX4_countFrom_121 : decode cX4_countFrom 121 = .ok (.iadd, 1) := by decide +kernel
theorem dX4_countFrom_122 : decode cX4_countFrom 122 = .ok (.invokestatic 32, 3) := by decide +kernel
theorem dX4_countFrom_125 : decode cX4_countFrom 125 = .ok (.iadd, 1) := by decide +kernel
theorem dX4_countFrom_126 : decode cX4_countFrom 126 = .ok (.istore 6, 2) := by decide +kernel
theorem dX4_countFrom_128 : decode cX4_countFrom 128 = .ok (.iinc 7 1, 3) := by decide +kernel
theorem dX4_countFrom_131 : decode cX4_countFrom 131 = .ok (.goto (-105), 3) := by decide +kernel
theorem dX4_countFrom_134 : decode cX4_countFrom 134 = .ok (.iload 6, 2) := by decide +kernel
theorem dX4_countFrom_136 : decode cX4_countFrom 136 = .ok (.ireturn, 1) := by decide +kernel
theorem dX5_init_0 : decode cX5_init 0 = .ok (.aload_n 0, 1) := by decide +kernel
theorem dX5_init_1 : decode cX5_init 1 = .ok (.invokespecial 5, 3) := by decide +kernel
theorem dX5_init_4 : decode cX5_init 4 = .ok (.aload_n 0, 1) := by decide +kernel
theorem dX5_init_5 : decode cX5_init 5 = .ok (.bipush 16, 2) := by decide +kernel
theorem dX5_init_7 : decode cX5_init 7 = .ok (.newarray .long, 2) := by decide +kernel
theorem dX5_init_9 : decode cX5_init 9 = .ok (.putfield 11, 3) := by decide +kernel
theorem dX5_init_12 : decode cX5_init 12 = .ok (.aload_n 0, 1) := by decide +kernel
theorem dX5_init_13 : decode cX5_init 13 = .ok (.aload_n 1, 1) := by decide +kernel
theorem dX5_init_14 : decode cX5_init 14 = .ok (.putfield 15, 3) := by decide +kernel
theorem dX5_init_17 : decode cX5_init 17 = .ok (.aload_n 0, 1) := by decide +kernel
theorem dX5_init_18 : decode cX5_init 18 = .ok (.new 19, 3) := by decide +kernel
theorem dX5_init_21 : decode cX5_init 21 = .ok (.dup, 1) := by decide +kernel
theorem dX5_init_22 : decode cX5_init 22 = .ok (.aload_n 1, 1) := by decide +kernel
theorem dX5_init_23 : decode cX5_init 23 = .ok (.invokespecial 21, 3) := by decide +kernel
theorem dX5_init_26 : decode cX5_init 26 = .ok (.putfield 24, 3) := by decide +kernel
theorem dX5_init_29 : decode cX5_init 29 = .ok (.return_, 1) := by decide +kernel
theorem dX5_restart_0 : decode cX5_restart 0 = .ok (.aload_n 0, 1) := by decide +kernel
theorem dX5_restart_1 : decode cX5_restart 1 = .ok (.iload_n 1, 1) := by decide +kernel
theorem dX5_restart_2 : decode cX5_restart 2 = .ok (.putfield 28, 3) := by decide +kernel
theorem dX5_restart_5 : decode cX5_restart 5 = .ok (.aload_n 0, 1) := by decide +kernel
theorem dX5_restart_6 : decode cX5_restart 6 = .ok (.iload_n 2, 1) := by decide +kernel
theorem dX5_restart_7 : decode cX5_restart 7 = .ok (.putfield 32, 3) := by decide +kernel
theorem dX5_restart_10 : decode cX5_restart 10 = .ok (.aload_n 0, 1) := by decide +kernel
theorem dX5_restart_11 : decode cX5_restart 11 = .ok (.iconst 0, 1) := by decide +kernel
theorem dX5_restart_12 : decode cX5_restart 12 = .ok (.putfield 35, 3) := by decide +kernel
theorem dX5_restart_15 : decode cX5_restart 15 = .ok (.aload_n 0, 1) := by decide +kernel
theorem dX5_restart_16 : decode cX5_restart 16 = .ok (.lconst 0, 1) := by decide +kernel
theorem dX5_restart_17 : decode cX5_restart 17 = .ok (.putfield 38, 3) := by decide +kernel
theorem dX5_restart_20 : decode cX5_restart 20 = .ok (.aload_n 0, 1) := by decide +kernel
theorem dX5_restart_21 : decode cX5_restart 21 = .ok (.iconst 0, 1) := by decide +kernel
theorem dX5_restart_22 : decode cX5_restart 22 = .ok (.putfield 42, 3) := by decide +kernel
theorem dX5_restart_25 : decode cX5_restart 25 = .ok (.aload_n 0, 1) := by decide +kernel
theorem dX5_restart_26 : decode cX5_restart 26 = .ok (.iconst 0, 1) := by decide +kernel
theorem dX5_restart_27 : decode cX5_restart 27 = .ok (.putfield 45, 3) := by decide +kernel
theorem dX5_restart_30 : decode cX5_restart 30 = .ok (.return_, 1) := by decide +kernel
theorem dX5_advance_0 : decode cX5_advance 0 = .ok (.aload_n 0, 1) := by decide +kernel
theorem dX5_advance_1 : decode cX5_advance 1 = .ok (.getfield 45, 3) := by decide +kernel
theorem dX5_advance_4 : decode cX5_advance 4 = .ok (.aload_n 0, 1) := by decide +kernel
theorem dX5_advance_5 : decode cX5_advance 5 = .ok (.getfield 42, 3) := by decide +kernel
theorem dX5_advance_8 : decode cX5_advance 8 = .ok (.if_icmp .lt 7, 3) := by decide +kernel
theorem dX5_advance_11 : decode cX5_advance 11 = .ok (.aload_n 0, 1) := by decide +kernel
theorem dX5_advance_12 : decode cX5_advance 12 = .ok (.invokevirtual 48, 3) := by decide +kernel
theorem dX5_advance_15 : decode cX5_advance 15 = .ok (.aload_n 0, 1) := by decide +kernel
theorem dX5_advance_16 : decode cX5_advance 16 = .ok (.getfield 45, 3) := by decide +kernel
theorem dX5_advance_19 : decode cX5_advance 19 = .ok (.aload_n 0, 1) := by decide +kernel
theorem dX5_advance_20 : decode cX5_advance 20 = .ok (.getfield 42, 3) := by decide +kernel
theorem dX5_advance_23 : decode cX5_advance 23 = .ok (.if_icmp .lt 5, 3) := by decide +kernel
theorem dX5_advance_26 : decode cX5_advance 26 = .ok (.iconst 0, 1) := by decide +kernel
theorem dX5_advance_27 : decode cX5_advance 27 = .ok (.ireturn, 1) := by decide +kernel
theorem dX5_advance_28 : decode cX5_advance 28 = .ok (.aload_n 0, 1) := by decide +kernel
theorem dX5_advance_29 : decode cX5_advance 29 = .ok (.aload_n 0, 1) := by decide +kernel
theorem dX5_advance_30 : decode cX5_advance 30 = .ok (.getfield 11, 3) := by decide +kernel
theorem dX5_advance_33 : decode cX5_advance 33 = .ok (.aload_n 0, 1) := by decide +kernel
theorem dX5_advance_34 : decode cX5_advance 34 = .ok (.getfield 45, 3) := by decide +kernel
theorem dX5_advance_37 : decode cX5_advance 37 = .ok (.invokestatic 51, 3) := by decide +kernel
theorem dX5_advance_40 : decode cX5_advance 40 = .ok (.putfield 38, 3) := by decide +kernel
theorem dX5_advance_43 : decode cX5_advance 43 = .ok (.aload_n 0, 1) := by decide +kernel
theorem dX5_advance_44 : decode cX5_advance 44 = .ok (.dup, 1) := by decide +kernel
theorem dX5_advance_45 : decode cX5_advance 45 = .ok (.getfield 45, 3) := by decide +kernel
theorem dX5_advance_48 : decode cX5_advance 48 = .ok (.iconst 1, 1) := by decide +kernel
theorem dX5_advance_49 : decode cX5_advance 49 = .ok (.iadd, 1) := by decide +kernel
theorem dX5_advance_50 : decode cX5_advance 50 = .ok (.putfield 45, 3) := by decide +kernel
theorem dX5_advance_53 : decode cX5_advance 53 = .ok (.aload_n 0, 1) := by decide +kernel
theorem dX5_advance_54 : decode cX5_advance 54 = .ok (.dup, 1) := by decide +kernel
theorem dX5_advance_55 : decode cX5_advance 55 = .ok (.getfield 35, 3) := by decide +kernel
theorem dX5_advance_58 : decode cX5_advance 58 = .ok (.iconst 1, 1) := by decide +kernel
theorem dX5_advance_59 : decode cX5_advance 59 = .ok (.iadd, 1) := by decide +kernel
theorem dX5_advance_60 : decode cX5_advance 60 = .ok (.putfield 35, 3) := by decide +kernel
theorem dX5_advance_63 : decode cX5_advance 63 = .ok (.iconst 1, 1) := by decide +kernel
theorem dX5_advance_64 : decode cX5_advance 64 = .ok (.ireturn, 1) := by decide +kernel
theorem dX5_turnPage_0 : decode cX5_turnPage 0 = .ok (.aload_n 0, 1) := by decide +kernel
theorem dX5_turnPage_1 : decode cX5_turnPage 1 = .ok (.iconst 0, 1) := by decide +kernel
theorem dX5_turnPage_2 : decode cX5_turnPage 2 = .ok (.putfield 42, 3) := by decide +kernel
theorem dX5_turnPage_5 : decode cX5_turnPage 5 = .ok (.aload_n 0, 1) := by decide +kernel
theorem dX5_turnPage_6 : decode cX5_turnPage 6 = .ok (.iconst 0, 1) := by decide +kernel
theorem dX5_turnPage_7 : decode cX5_turnPage 7 = .ok (.putfield 45, 3) := by decide +kernel
theorem dX5_turnPage_10 : decode cX5_turnPage 10 = .ok (.aload_n 0, 1) := by decide +kernel
theorem dX5_turnPage_11 : decode cX5_turnPage 11 = .ok (.getfield 24, 3) := by decide +kernel
theorem dX5_turnPage_14 : decode cX5_turnPage 14 = .ok (.aload_n 0, 1) := by decide +kernel
theorem dX5_turnPage_15 : decode cX5_turnPage 15 = .ok (.getfield 32, 3) := by decide +kernel
theorem dX5_turnPage_18 : decode cX5_turnPage 18 = .ok (.invokevirtual 55, 3) := by decide +kernel
theorem dX5_turnPage_21 : decode cX5_turnPage 21 = .ok (.aload_n 0, 1) := by decide +kernel
theorem dX5_turnPage_22 : decode cX5_turnPage 22 = .ok (.aload_n 0, 1) := by decide +kernel
theorem dX5_turnPage_23 : decode cX5_turnPage 23 = .ok (.getfield 28, 3) := by decide +kernel
theorem dX5_turnPage_26 : decode cX5_turnPage 26 = .ok (.iconst 1, 1) := by decide +kernel
theorem dX5_turnPage_27 : decode cX5_turnPage 27 = .ok (.aload_n 0, 1) := by decide +kernel
theorem dX5_turnPage_28 : decode cX5_turnPage 28 = .ok (.getfield 28, 3) := by decide +kernel
theorem dX5_turnPage_31 : decode cX5_turnPage 31 = .ok (.ishl, 1) := by decide +kernel
theorem dX5_turnPage_32 : decode cX5_turnPage 32 = .ok (.lconst 0, 1) := by decide +kernel
theorem dX5_turnPage_33 : decode cX5_turnPage 33 = .ok (.iconst 0, 1) := by decide +kernel
theorem dX5_turnPage_34 : decode cX5_turnPage 34 = .ok (.invokestatic 59, 3) := by decide +kernel
theorem dX5_turnPage_37 : decode cX5_turnPage 37 = .ok (.return_, 1) := by decide +kernel
theorem dX5_explore_0 : decode cX5_explore 0 = .ok (.iload 5, 2) := by decide +kernel
theorem dX5_explore_2 : decode cX5_explore 2 = .ok (.bipush 9, 2) := by decide +kernel
theorem dX5_explore_4 : decode cX5_explore 4 = .ok (.if_icmp .lt 4, 3) := by decide +kernel
theorem dX5_explore_7 : decode cX5_explore 7 = .ok (.return_, 1) := by decide +kernel
theorem dX5_explore_8 : decode cX5_explore 8 = .ok (.aload_n 0, 1) := by decide +kernel
theorem dX5_explore_9 : decode cX5_explore 9 = .ok (.getfield 15, 3) := by decide +kernel
theorem dX5_explore_12 : decode cX5_explore 12 = .ok (.astore 6, 2) := by decide +kernel
theorem dX5_explore_14 : decode cX5_explore 14 = .ok (.aload 6, 2) := by decide +kernel
theorem dX5_explore_16 : decode cX5_explore 16 = .ok (.iload_n 1, 1) := by decide +kernel
theorem dX5_explore_17 : decode cX5_explore 17 = .ok (.invokevirtual 63, 3) := by decide +kernel
theorem dX5_explore_20 : decode cX5_explore 20 = .ok (.istore 7, 2) := by decide +kernel
theorem dX5_explore_22 : decode cX5_explore 22 = .ok (.iload 7, 2) := by decide +kernel
theorem dX5_explore_24 : decode cX5_explore 24 = .ok (.aload 6, 2) := by decide +kernel
theorem dX5_explore_26 : decode cX5_explore 26 = .ok (.iload_n 1, 1) := by decide +kernel
theorem dX5_explore_27 : decode cX5_explore 27 = .ok (.invokevirtual 69, 3) := by decide +kernel
theorem dX5_explore_30 : decode cX5_explore 30 = .ok (.if_icmp .ge 109, 3) := by decide +kernel
theorem dX5_explore_33 : decode cX5_explore 33 = .ok (.aload 6, 2) := by decide +kernel
theorem dX5_explore_35 : decode cX5_explore 35 = .ok (.iload 7, 2) := by decide +kernel
theorem dX5_explore_37 : decode cX5_explore 37 = .ok (.invokevirtual 72, 3) := by decide +kernel
theorem dX5_explore_40 : decode cX5_explore 40 = .ok (.istore 8, 2) := by decide +kernel
theorem dX5_explore_42 : decode cX5_explore 42 = .ok (.aload 6, 2) := by decide +kernel
theorem dX5_explore_44 : decode cX5_explore 44 = .ok (.iload 8, 2) := by decide +kernel
theorem dX5_explore_46 : decode cX5_explore 46 = .ok (.invokevirtual 75, 3) := by decide +kernel
theorem dX5_explore_49 : decode cX5_explore 49 = .ok (.istore 9, 2) := by decide +kernel
theorem dX5_explore_51 : decode cX5_explore 51 = .ok (.lload_n 3, 1) := by decide +kernel
theorem dX5_explore_52 : decode cX5_explore 52 = .ok (.aload 6, 2) := by decide +kernel
theorem dX5_explore_54 : decode cX5_explore 54 = .ok (.iload 8, 2) := by decide +kernel
theorem dX5_explore_56 : decode cX5_explore 56 = .ok (.invokevirtual 78, 3) := by decide +kernel
theorem dX5_explore_59 : decode cX5_explore 59 = .ok (.invokestatic 81, 3) := by decide +kernel
theorem dX5_explore_62 : decode cX5_explore 62 = .ok (.ladd, 1) := by decide +kernel
theorem dX5_explore_63 : decode cX5_explore 63 = .ok (.iload 8, 2) := by decide +kernel
theorem dX5_explore_65 : decode cX5_explore 65 = .ok (.i2l, 1) := by decide +kernel
theorem dX5_explore_66 : decode cX5_explore 66 = .ok (.lconst 1, 1) := by decide +kernel
theorem dX5_explore_67 : decode cX5_explore 67 = .ok (.ladd, 1) := by decide +kernel
theorem dX5_explore_68 : decode cX5_explore 68 = .ok (.iload 5, 2) := by decide +kernel
theorem dX5_explore_70 : decode cX5_explore 70 = .ok (.invokestatic 85, 3) := by decide +kernel
theorem dX5_explore_73 : decode cX5_explore 73 = .ok (.lshl, 1) := by decide +kernel
theorem dX5_explore_74 : decode cX5_explore 74 = .ok (.ladd, 1) := by decide +kernel
theorem dX5_explore_75 : decode cX5_explore 75 = .ok (.lstore 10, 2) := by decide +kernel
theorem dX5_explore_77 : decode cX5_explore 77 = .ok (.iload 9, 2) := by decide +kernel
theorem dX5_explore_79 : decode cX5_explore 79 = .ok (.aload_n 0, 1) := by decide +kernel
theorem dX5_explore_80 : decode cX5_explore 80 = .ok (.getfield 32, 3) := by decide +kernel
theorem dX5_explore_83 : decode cX5_explore 83 = .ok (.if_icmp .ne 12, 3) := by decide +kernel
theorem dX5_explore_86 : decode cX5_explore 86 = .ok (.aload_n 0, 1) := by decide +kernel
theorem dX5_explore_87 : decode cX5_explore 87 = .ok (.lload 10, 2) := by decide +kernel
theorem dX5_explore_89 : decode cX5_explore 89 = .ok (.invokevirtual 88, 3) := by decide +kernel
theorem dX5_explore_92 : decode cX5_explore 92 = .ok (.goto 41, 3) := by decide +kernel
theorem dX5_explore_95 : decode cX5_explore 95 = .ok (.iload_n 2, 1) := by decide +kernel
theorem dX5_explore_96 : decode cX5_explore 96 = .ok (.iload 9, 2) := by decide +kernel
theorem dX5_explore_98 : decode cX5_explore 98 = .ok (.invokestatic 92, 3) := by decide +kernel
theorem dX5_explore_101 : decode cX5_explore 101 = .ok (.ifCond .ne 32, 3) := by decide +kernel
theorem dX5_explore_104 : decode cX5_explore 104 = .ok (.aload_n 0, 1) := by decide +kernel
theorem dX5_explore_105 : decode cX5_explore 105 = .ok (.iload 9, 2) := by decide +kernel
theorem dX5_explore_107 : decode cX5_explore 107 = .ok (.lload 10, 2) := by decide +kernel
theorem dX5_explore_109 : decode cX5_explore 109 = .ok (.invokevirtual 96, 3) := by decide +kernel
theorem dX5_explore_112 : decode cX5_explore 112 = .ok (.ifCond .eq 21, 3) := by decide +kernel
theorem dX5_explore_115 : decode cX5_explore 115 = .ok (.aload_n 0, 1) := by decide +kernel
theorem dX5_explore_116 : decode cX5_explore 116 = .ok (.iload 9, 2) := by decide +kernel
theorem dX5_explore_118 : decode cX5_explore 118 = .ok (.iload_n 2, 1) := by decide +kernel
theorem dX5_explore_119 : decode cX5_explore 119 = .ok (.iconst 1, 1) := by decide +kernel
theorem dX5_explore_120 : decode cX5_explore 120 = .ok (.iload 9, 2) := by decide +kernel
theorem dX5_explore_122 : decode cX5_explore 122 = .ok (.ishl, 1) := by decide +kernel
theorem dX5_explore_123 : decode cX5_explore 123 = .ok (.ior, 1) := by decide +kernel
theorem dX5_explore_124 : decode cX5_explore 124 = .ok (.lload 10, 2) := by decide +kernel
theorem dX5_explore_126 : decode cX5_explore 126 = .ok (.iload 5, 2) := by decide +kernel
theorem dX5_explore_128 : decode cX5_explore 128 = .ok (.iconst 1, 1) := by decide +kernel
theorem dX5_explore_129 : decode cX5_explore 129 = .ok (.iadd, 1) := by decide +kernel
theorem dX5_explore_130 : decode cX5_explore 130 = .ok (.invokestatic 59, 3) := by decide +kernel
theorem dX5_explore_133 : decode cX5_explore 133 = .ok (.iinc 7 1, 3) := by decide +kernel
theorem dX5_explore_136 : decode cX5_explore 136 = .ok (.goto (-114), 3) := by decide +kernel
theorem dX5_explore_139 : decode cX5_explore 139 = .ok (.return_, 1) := by decide +kernel
theorem dX5_leadsOn_0 : decode cX5_leadsOn 0 = .ok (.aload_n 0, 1) := by decide +kernel
theorem dX5_leadsOn_1 : decode cX5_leadsOn 1 = .ok (.getfield 24, 3) := by decide +kernel
theorem dX5_leadsOn_4 : decode cX5_leadsOn 4 = .ok (.iload_n 1, 1) := by decide +kernel
theorem dX5_leadsOn_5 : decode cX5_leadsOn 5 = .ok (.invokevirtual 100, 3) := by decide +kernel
theorem dX5_leadsOn_8 : decode cX5_leadsOn 8 = .ok (.istore 4, 2) := by decide +kernel
theorem dX5_leadsOn_10 : decode cX5_leadsOn 10 = .ok (.iload 4, 2) := by decide +kernel
theorem dX5_leadsOn_12 : decode cX5_leadsOn 12 = .ok (.ldc 103, 2) := by decide +kernel
theorem dX5_leadsOn_14 : decode cX5_leadsOn 14 = .ok (.if_icmp .ge 21, 3) := by decide +kernel
theorem dX5_leadsOn_17 : decode cX5_leadsOn 17 = .ok (.aload_n 0, 1) := by decide +kernel
theorem dX5_leadsOn_18 : decode cX5_leadsOn 18 = .ok (.lload_n 2, 1) := by decide +kernel
theorem dX5_leadsOn_19 : decode cX5_leadsOn 19 = .ok (.iload 4, 2) := by decide +kernel
theorem dX5_leadsOn_21 : decode cX5_leadsOn 21 = .ok (.invokestatic 81, 3) := by decide +kernel
theorem dX5_leadsOn_24 : decode cX5_leadsOn 24 = .ok (.ladd, 1) := by decide +kernel
theorem dX5_leadsOn_25 : decode cX5_leadsOn 25 = .ok (.invokevirtual 104, 3) := by decide +kernel
theorem dX5_leadsOn_28 : decode cX5_leadsOn 28 = .ok (.ifCond .eq 7, 3) := by decide +kernel
theorem dX5_leadsOn_31 : decode cX5_leadsOn 31 = .ok (.iconst 1, 1) := by decide +kernel
theorem dX5_leadsOn_32 : decode cX5_leadsOn 32 = .ok (.goto 4, 3) := by decide +kernel
theorem dX5_leadsOn_35 : decode cX5_leadsOn 35 = .ok (.iconst 0, 1) := by decide +kernel
theorem dX5_leadsOn_36 : decode cX5_leadsOn 36 = .ok (.ireturn, 1) := by decide +kernel
theorem dX5_fits_0 : decode cX5_fits 0 = .ok (.aload_n 0, 1) := by decide +kernel
theorem dX5_fits_1 : decode cX5_fits 1 = .ok (.getfield 42, 3) := by decide +kernel
theorem dX5_fits_4 : decode cX5_fits 4 = .ok (.bipush 16, 2) := by decide +kernel
theorem dX5_fits_6 : decode cX5_fits 6 = .ok (.if_icmp .lt 17, 3) := by decide +kernel
theorem dX5_fits_9 : decode cX5_fits 9 = .ok (.lload_n 1, 1) := by decide +kernel
theorem dX5_fits_10 : decode cX5_fits 10 = .ok (.aload_n 0, 1) := by decide +kernel
theorem dX5_fits_11 : decode cX5_fits 11 = .ok (.getfield 11, 3) := by decide +kernel
theorem dX5_fits_14 : decode cX5_fits 14 = .ok (.bipush 15, 2) := by decide +kernel
theorem dX5_fits_16 : decode cX5_fits 16 = .ok (.invokestatic 51, 3) := by decide +kernel
theorem dX5_fits_19 : decode cX5_fits 19 = .ok (.lcmp, 1) := by decide +kernel
theorem dX5_fits_20 : decode cX5_fits 20 = .ok (.ifCond .ge 7, 3) := by decide +kernel
theorem dX5_fits_23 : decode cX5_fits 23 = .ok (.iconst 1, 1) := by decide +kernel
theorem dX5_fits_24 : decode cX5_fits 24 = .ok (.goto 4, 3) := by decide +kernel
theorem dX5_fits_27 : decode cX5_fits 27 = .ok (.iconst 0, 1) := by decide +kernel
theorem dX5_fits_28 : decode cX5_fits 28 = .ok (.ireturn, 1) := by decide +kernel
theorem dX5_keep_0 : decode cX5_keep 0 = .ok (.lload_n 1, 1) := by decide +kernel
theorem dX5_keep_1 : decode cX5_keep 1 = .ok (.aload_n 0, 1) := by decide +kernel
theorem dX5_keep_2 : decode cX5_keep 2 = .ok (.getfield 38, 3) := by decide +kernel
theorem dX5_keep_5 : decode cX5_keep 5 = .ok (.lcmp, 1) := by decide +kernel
theorem dX5_keep_6 : decode cX5_keep 6 = .ok (.ifCond .le 11, 3) := by decide +kernel
theorem dX5_keep_9 : decode cX5_keep 9 = .ok (.aload_n 0, 1) := by decide +kernel
theorem dX5_keep_10 : decode cX5_keep 10 = .ok (.lload_n 1, 1) := by decide +kernel
theorem dX5_keep_11 : decode cX5_keep 11 = .ok (.invokevirtual 104, 3) := by decide +kernel
theorem dX5_keep_14 : decode cX5_keep 14 = .ok (.ifCond .ne 4, 3) := by decide +kernel
theorem dX5_keep_17 : decode cX5_keep 17 = .ok (.return_, 1) := by decide +kernel
theorem dX5_keep_18 : decode cX5_keep 18 = .ok (.aload_n 0, 1) := by decide +kernel
theorem dX5_keep_19 : decode cX5_keep 19 = .ok (.getfield 42, 3) := by decide +kernel
theorem dX5_keep_22 : decode cX5_keep 22 = .ok (.bipush 15, 2) := by decide +kernel
theorem dX5_keep_24 : decode cX5_keep 24 = .ok (.invokestatic 108, 3) := by decide +kernel
theorem dX5_keep_27 : decode cX5_keep 27 = .ok (.istore_n 3, 1) := by decide +kernel
theorem dX5_keep_28 : decode cX5_keep 28 = .ok (.iload_n 3, 1) := by decide +kernel
theorem dX5_keep_29 : decode cX5_keep 29 = .ok (.ifCond .le 42, 3) := by decide +kernel
theorem dX5_keep_32 : decode cX5_keep 32 = .ok (.aload_n 0, 1) := by decide +kernel
theorem dX5_keep_33 : decode cX5_keep 33 = .ok (.getfield 11, 3) := by decide +kernel
theorem dX5_keep_36 : decode cX5_keep 36 = .ok (.iload_n 3, 1) := by decide +kernel
theorem dX5_keep_37 : decode cX5_keep 37 = .ok (.iconst 1, 1) := by decide +kernel
theorem dX5_keep_38 : decode cX5_keep 38 = .ok (.isub, 1) := by decide +kernel
theorem dX5_keep_39 : decode cX5_keep 39 = .ok (.invokestatic 51, 3) := by decide +kernel
theorem dX5_keep_42 : decode cX5_keep 42 = .ok (.lload_n 1, 1) := by decide +kernel
theorem dX5_keep_43 : decode cX5_keep 43 = .ok (.lcmp, 1) := by decide +kernel
theorem dX5_keep_44 : decode cX5_keep 44 = .ok (.ifCond .le 27, 3) := by decide +kernel
theorem dX5_keep_47 : decode cX5_keep 47 = .ok (.aload_n 0, 1) := by decide +kernel
theorem dX5_keep_48 : decode cX5_keep 48 = .ok (.getfield 11, 3) := by decide +kernel
theorem dX5_keep_51 : decode cX5_keep 51 = .ok (.iload_n 3, 1) := by decide +kernel
theorem dX5_keep_52 : decode cX5_keep 52 = .ok (.aload_n 0, 1) := by decide +kernel
theorem dX5_keep_53 : decode cX5_keep 53 = .ok (.getfield 11, 3) := by decide +kernel
theorem dX5_keep_56 : decode cX5_keep 56 = .ok (.iload_n 3, 1) := by decide +kernel
theorem dX5_keep_57 : decode cX5_keep 57 = .ok (.iconst 1, 1) := by decide +kernel
theorem dX5_keep_58 : decode cX5_keep 58 = .ok (.isub, 1) := by decide +kernel
theorem dX5_keep_59 : decode cX5_keep 59 = .ok (.invokestatic 51, 3) := by decide +kernel
theorem dX5_keep_62 : decode cX5_keep 62 = .ok (.invokestatic 114, 3) := by decide +kernel
theorem dX5_keep_65 : decode cX5_keep 65 = .ok (.iinc 3 (-1), 3) := by decide +kernel
theorem dX5_keep_68 : decode cX5_keep 68 = .ok (.goto (-40), 3) := by decide +kernel
theorem dX5_keep_71 : decode cX5_keep 71 = .ok (.aload_n 0, 1) := by decide +kernel
theorem dX5_keep_72 : decode cX5_keep 72 = .ok (.getfield 11, 3) := by decide +kernel
theorem dX5_keep_75 : decode cX5_keep 75 = .ok (.iload_n 3, 1) := by decide +kernel
theorem dX5_keep_76 : decode cX5_keep 76 = .ok (.lload_n 1, 1) := by decide +kernel
theorem dX5_keep_77 : decode cX5_keep 77 = .ok (.invokestatic 114, 3) := by decide +kernel
theorem dX5_keep_80 : decode cX5_keep 80 = .ok (.aload_n 0, 1) := by decide +kernel
theorem dX5_keep_81 : decode cX5_keep 81 = .ok (.aload_n 0, 1) := by decide +kernel
theorem dX5_keep_82 : decode cX5_keep 82 = .ok (.getfield 42, 3) := by decide +kernel
theorem dX5_keep_85 : decode cX5_keep 85 = .ok (.iconst 1, 1) := by decide +kernel
theorem dX5_keep_86 : decode cX5_keep 86 = .ok (.iadd, 1) := by decide +kernel
theorem dX5_keep_87 : decode cX5_keep 87 = .ok (.bipush 16, 2) := by decide +kernel
theorem dX5_keep_89 : decode cX5_keep 89 = .ok (.invokestatic 108, 3) := by decide +kernel
theorem dX5_keep_92 : decode cX5_keep 92 = .ok (.putfield 42, 3) := by decide +kernel
theorem dX5_keep_95 : decode cX5_keep 95 = .ok (.return_, 1) := by decide +kernel
theorem dX5_ofLength_0 : decode cX5_ofLength 0 = .ok (.iload_n 0, 1) := by decide +kernel
theorem dX5_ofLength_1 : decode cX5_ofLength 1 = .ok (.i2l, 1) := by decide +kernel
theorem dX5_ofLength_2 : decode cX5_ofLength 2 = .ok (.bipush 45, 2) := by decide +kernel
theorem dX5_ofLength_4 : decode cX5_ofLength 4 = .ok (.lshl, 1) := by decide +kernel
theorem dX5_ofLength_5 : decode cX5_ofLength 5 = .ok (.lreturn, 1) := by decide +kernel
theorem dX5_slotShift_0 : decode cX5_slotShift 0 = .ok (.bipush 8, 2) := by decide +kernel
theorem dX5_slotShift_2 : decode cX5_slotShift 2 = .ok (.iload_n 0, 1) := by decide +kernel
theorem dX5_slotShift_3 : decode cX5_slotShift 3 = .ok (.isub, 1) := by decide +kernel
theorem dX5_slotShift_4 : decode cX5_slotShift 4 = .ok (.iconst 5, 1) := by decide +kernel
theorem dX5_slotShift_5 : decode cX5_slotShift 5 = .ok (.imul, 1) := by decide +kernel
theorem dX5_slotShift_6 : decode cX5_slotShift 6 = .ok (.ireturn, 1) := by decide +kernel
theorem dX5_drawnTotal_0 : decode cX5_drawnTotal 0 = .ok (.aload_n 0, 1) := by decide +kernel
theorem dX5_drawnTotal_1 : decode cX5_drawnTotal 1 = .ok (.getfield 35, 3) := by decide +kernel
theorem dX5_drawnTotal_4 : decode cX5_drawnTotal 4 = .ok (.ireturn, 1) := by decide +kernel
theorem dX5_currentLength_0 : decode cX5_currentLength 0 = .ok (.aload_n 0, 1) := by decide +kernel
theorem dX5_currentLength_1 : decode cX5_currentLength 1 = .ok (.getfield 38, 3) := by decide +kernel
theorem dX5_currentLength_4 : decode cX5_currentLength 4 = .ok (.bipush 45, 2) := by decide +kernel
theorem dX5_currentLength_6 : decode cX5_currentLength 6 = .ok (.lushr, 1) := by decide +kernel
theorem dX5_currentLength_7 : decode cX5_currentLength 7 = .ok (.l2i, 1) := by decide +kernel
theorem dX5_currentLength_8 : decode cX5_currentLength 8 = .ok (.ireturn, 1) := by decide +kernel
theorem dX5_currentEdge_0 : decode cX5_currentEdge 0 = .ok (.iload_n 1, 1) := by decide +kernel
theorem dX5_currentEdge_1 : decode cX5_currentEdge 1 = .ok (.ifCond .lt 9, 3) := by decide +kernel
theorem dX5_currentEdge_4 : decode cX5_currentEdge 4 = .ok (.iload_n 1, 1) := by decide +kernel
theorem dX5_currentEdge_5 : decode cX5_currentEdge 5 = .ok (.bipush 9, 2) := by decide +kernel
theorem dX5_currentEdge_7 : decode cX5_currentEdge 7 = .ok (.if_icmp .lt 5, 3) := by decide +kernel
theorem dX5_currentEdge_10 : decode cX5_currentEdge 10 = .ok (.iconst (-1), 1) := by decide +kernel
theorem dX5_currentEdge_11 : decode cX5_currentEdge 11 = .ok (.ireturn, 1) := by decide +kernel
theorem dX5_currentEdge_12 : decode cX5_currentEdge 12 = .ok (.aload_n 0, 1) := by decide +kernel
theorem dX5_currentEdge_13 : decode cX5_currentEdge 13 = .ok (.getfield 38, 3) := by decide +kernel
theorem dX5_currentEdge_16 : decode cX5_currentEdge 16 = .ok (.iload_n 1, 1) := by decide +kernel
theorem dX5_currentEdge_17 : decode cX5_currentEdge 17 = .ok (.invokestatic 85, 3) := by decide +kernel
theorem dX5_currentEdge_20 : decode cX5_currentEdge 20 = .ok (.lushr, 1) := by decide +kernel
theorem dX5_currentEdge_21 : decode cX5_currentEdge 21 = .ok (.ldc2_w 118, 3) := by decide +kernel
theorem dX5_currentEdge_24 : decode cX5_currentEdge 24 = .ok (.land, 1) := by decide +kernel
theorem dX5_currentEdge_25 : decode cX5_currentEdge 25 = .ok (.l2i, 1) := by decide +kernel
theorem dX5_currentEdge_26 : decode cX5_currentEdge 26 = .ok (.iconst 1, 1) := by decide +kernel
theorem dX5_currentEdge_27 : decode cX5_currentEdge 27 = .ok (.isub, 1) := by decide +kernel
theorem dX5_currentEdge_28 : decode cX5_currentEdge 28 = .ok (.ireturn, 1) := by decide +kernel
theorem dX5_currentSize_0 : decode cX5_currentSize 0 = .ok (.iconst 0, 1) := by decide +kernel
theorem dX5_currentSize_1 : decode cX5_currentSize 1 = .ok (.istore_n 1, 1) := by decide +kernel
theorem dX5_currentSize_2 : decode cX5_currentSize 2 = .ok (.iload_n 1, 1) := by decide +kernel
theorem dX5_currentSize_3 : decode cX5_currentSize 3 = .ok (.bipush 9, 2) := by decide +kernel
theorem dX5_currentSize_5 : decode cX5_currentSize 5 = .ok (.if_icmp .ge 18, 3) := by decide +kernel
theorem dX5_currentSize_8 : decode cX5_currentSize 8 = .ok (.aload_n 0, 1) := by decide +kernel
theorem dX5_currentSize_9 : decode cX5_currentSize 9 = .ok (.iload_n 1, 1) := by decide +kernel
theorem dX5_currentSize_10 : decode cX5_currentSize 10 = .ok (.invokevirtual 120, 3) := by decide +kernel
theorem dX5_currentSize_13 : decode cX5_currentSize 13 = .ok (.iconst (-1), 1) := by decide +kernel
theorem dX5_currentSize_14 : decode cX5_currentSize 14 = .ok (.if_icmp .eq 9, 3) := by decide +kernel
theorem dX5_currentSize_17 : decode cX5_currentSize 17 = .ok (.iinc 1 1, 3) := by decide +kernel
theorem dX5_currentSize_20 : decode cX5_currentSize 20 = .ok (.goto (-18), 3) := by decide +kernel
theorem dX5_currentSize_23 : decode cX5_currentSize 23 = .ok (.iload_n 1, 1) := by decide +kernel
theorem dX5_currentSize_24 : decode cX5_currentSize 24 = .ok (.ireturn, 1) := by decide +kernel
theorem dX6_init_0 : decode cX6_init 0 = .ok (.aload_n 0, 1) := by decide +kernel
theorem dX6_init_1 : decode cX6_init 1 = .ok (.invokespecial 3, 3) := by decide +kernel
theorem dX6_init_4 : decode cX6_init 4 = .ok (.aload_n 0, 1) := by decide +kernel
theorem dX6_init_5 : decode cX6_init 5 = .ok (.sipush 500, 3) := by decide +kernel
theorem dX6_init_8 : decode cX6_init 8 = .ok (.newarray .int, 2) := by decide +kernel
theorem dX6_init_10 : decode cX6_init 10 = .ok (.putfield 11, 3) := by decide +kernel
theorem dX6_init_13 : decode cX6_init 13 = .ok (.aload_n 0, 1) := by decide +kernel
theorem dX6_init_14 : decode cX6_init 14 = .ok (.sipush 500, 3) := by decide +kernel
theorem dX6_init_17 : decode cX6_init 17 = .ok (.newarray .int, 2) := by decide +kernel
theorem dX6_init_19 : decode cX6_init 19 = .ok (.putfield 15, 3) := by decide +kernel
theorem dX6_init_22 : decode cX6_init 22 = .ok (.aload_n 0, 1) := by decide +kernel
theorem dX6_init_23 : decode cX6_init 23 = .ok (.sipush 500, 3) := by decide +kernel
theorem dX6_init_26 : decode cX6_init 26 = .ok (.newarray .int, 2) := by decide +kernel
theorem dX6_init_28 : decode cX6_init 28 = .ok (.putfield 18, 3) := by decide +kernel
theorem dX6_init_31 : decode cX6_init 31 = .ok (.aload_n 0, 1) := by decide +kernel
theorem dX6_init_32 : decode cX6_init 32 = .ok (.sipush 500, 3) := by decide +kernel
theorem dX6_init_35 : decode cX6_init 35 = .ok (.newarray .int, 2) := by decide +kernel
theorem dX6_init_37 : decode cX6_init 37 = .ok (.putfield 21, 3) := by decide +kernel
theorem dX6_init_40 : decode cX6_init 40 = .ok (.aload_n 0, 1) := by decide +kernel
theorem dX6_init_41 : decode cX6_init 41 = .ok (.bipush 10, 2) := by decide +kernel
theorem dX6_init_43 : decode cX6_init 43 = .ok (.newarray .int, 2) := by decide +kernel
theorem dX6_init_45 : decode cX6_init 45 = .ok (.putfield 24, 3) := by decide +kernel
theorem dX6_init_48 : decode cX6_init 48 = .ok (.aload_n 0, 1) := by decide +kernel
theorem dX6_init_49 : decode cX6_init 49 = .ok (.bipush 24, 2) := by decide +kernel
theorem dX6_init_51 : decode cX6_init 51 = .ok (.newarray .int, 2) := by decide +kernel
theorem dX6_init_53 : decode cX6_init 53 = .ok (.putfield 27, 3) := by decide +kernel
theorem dX6_init_56 : decode cX6_init 56 = .ok (.aload_n 0, 1) := by decide +kernel
theorem dX6_init_57 : decode cX6_init 57 = .ok (.aload_n 1, 1) := by decide +kernel
theorem dX6_init_58 : decode cX6_init 58 = .ok (.putfield 30, 3) := by decide +kernel
theorem dX6_init_61 : decode cX6_init 61 = .ok (.return_, 1) := by decide +kernel
theorem dX6_restart_0 : decode cX6_restart 0 = .ok (.aload_n 0, 1) := by decide +kernel
theorem dX6_restart_1 : decode cX6_restart 1 = .ok (.iload_n 1, 1) := by decide +kernel
theorem dX6_restart_2 : decode cX6_restart 2 = .ok (.putfield 34, 3) := by decide +kernel
theorem dX6_restart_5 : decode cX6_restart 5 = .ok (.aload_n 0, 1) := by decide +kernel
theorem dX6_restart_6 : decode cX6_restart 6 = .ok (.iconst 0, 1) := by decide +kernel
theorem dX6_restart_7 : decode cX6_restart 7 = .ok (.putfield 38, 3) := by decide +kernel
theorem dX6_restart_10 : decode cX6_restart 10 = .ok (.aload_n 0, 1) := by decide +kernel
theorem dX6_restart_11 : decode cX6_restart 11 = .ok (.getfield 24, 3) := by decide +kernel
theorem dX6_restart_14 : decode cX6_restart 14 = .ok (.iconst 0, 1) := by decide +kernel
theorem dX6_restart_15 : decode cX6_restart 15 = .ok (.invokestatic 41, 3) := by decide +kernel
theorem dX6_restart_18 : decode cX6_restart 18 = .ok (.aload_n 0, 1) := by decide +kernel
theorem dX6_restart_19 : decode cX6_restart 19 = .ok (.getfield 27, 3) := by decide +kernel
theorem dX6_restart_22 : decode cX6_restart 22 = .ok (.iconst 0, 1) := by decide +kernel
theorem dX6_restart_23 : decode cX6_restart 23 = .ok (.invokestatic 41, 3) := by decide +kernel
theorem dX6_restart_26 : decode cX6_restart 26 = .ok (.aload_n 0, 1) := by decide +kernel
theorem dX6_restart_27 : decode cX6_restart 27 = .ok (.iload_n 2, 1) := by decide +kernel
theorem dX6_restart_28 : decode cX6_restart 28 = .ok (.iconst 0, 1) := by decide +kernel
theorem dX6_restart_29 : decode cX6_restart 29 = .ok (.iconst 0, 1) := by decide +kernel
theorem dX6_restart_30 : decode cX6_restart 30 = .ok (.iconst (-1), 1) := by decide +kernel
theorem dX6_restart_31 : decode cX6_restart 31 = .ok (.iconst 0, 1) := by decide +kernel
theorem dX6_restart_32 : decode cX6_restart 32 = .ok (.invokevirtual 47, 3) := by decide +kernel
theorem dX6_restart_35 : decode cX6_restart 35 = .ok (.return_, 1) := by decide +kernel
theorem dX6_advance_0 : decode cX6_advance 0 = .ok (.iconst 0, 1) := by decide +kernel
theorem dX6_advance_1 : decode cX6_advance 1 = .ok (.istore_n 1, 1) := by decide +kernel
theorem dX6_advance_2 : decode cX6_advance 2 = .ok (.iload_n 1, 1) := by decide +kernel
theorem dX6_advance_3 : decode cX6_advance 3 = .ok (.sipush 500, 3) := by decide +kernel
theorem dX6_advance_6 : decode cX6_advance 6 = .ok (.if_icmp .ge 44, 3) := by decide +kernel
theorem dX6_advance_9 : decode cX6_advance 9 = .ok (.aload_n 0, 1) := by decide +kernel
theorem dX6_advance_10 : decode cX6_advance 10 = .ok (.getfield 24, 3) := by decide +kernel
theorem dX6_advance_13 : decode cX6_advance 13 = .ok (.aload_n 0, 1) := by decide +kernel
theorem dX6_advance_14 : decode cX6_advance 14 = .ok (.getfield 34, 3) := by decide +kernel
theorem dX6_advance_17 : decode cX6_advance 17 = .ok (.invokestatic 51, 3) := by decide +kernel
theorem dX6_advance_20 : decode cX6_advance 20 = .ok (.aload_n 0, 1) := by decide +kernel
theorem dX6_advance_21 : decode cX6_advance 21 = .ok (.getfield 38, 3) := by decide +kernel
theorem dX6_advance_24 : decode cX6_advance 24 = .ok (.if_icmp .gt 26, 3) := by decide +kernel
theorem dX6_advance_27 : decode cX6_advance 27 = .ok (.aload_n 0, 1) := by decide +kernel
theorem dX6_advance_28 : decode cX6_advance 28 = .ok (.invokevirtual 55, 3) := by decide +kernel
theorem dX6_advance_31 : decode cX6_advance 31 = .ok (.istore_n 2, 1) := by decide +kernel
theorem dX6_advance_32 : decode cX6_advance 32 = .ok (.iload_n 2, 1) := by decide +kernel
theorem dX6_advance_33 : decode cX6_advance 33 = .ok (.iconst (-1), 1) := by decide +kernel
theorem dX6_advance_34 : decode cX6_advance 34 = .ok (.if_icmp .ne 5, 3) := by decide +kernel
theorem dX6_advance_37 : decode cX6_advance 37 = .ok (.iconst 0, 1) := by decide +kernel
theorem dX6_advance_38 : decode cX6_advance 38 = .ok (.ireturn, 1) := by decide +kernel
theorem dX6_advance_39 : decode cX6_advance 39 = .ok (.aload_n 0, 1) := by decide +kernel
theorem dX6_advance_40 : decode cX6_advance 40 = .ok (.iload_n 2, 1) := by decide +kernel
theorem dX6_advance_41 : decode cX6_advance 41 = .ok (.invokevirtual 59, 3) := by decide +kernel
theorem dX6_advance_44 : decode cX6_advance 44 = .ok (.iinc 1 1, 3) := by decide +kernel
theorem dX6_advance_47 : decode cX6_advance 47 = .ok (.goto (-45), 3) := by decide +kernel
theorem dX6_advance_50 : decode cX6_advance 50 = .ok (.aload_n 0, 1) := by decide +kernel
theorem dX6_advance_51 : decode cX6_advance 51 = .ok (.dup, 1) := by decide +kernel
theorem dX6_advance_52 : decode cX6_advance 52 = .ok (.getfield 38, 3) := by decide +kernel
theorem dX6_advance_55 : decode cX6_advance 55 = .ok (.iconst 1, 1) := by decide +kernel
theorem dX6_advance_56 : decode cX6_advance 56 = .ok (.iadd, 1) := by decide +kernel
theorem dX6_advance_57 : decode cX6_advance 57 = .ok (.putfield 38, 3) := by decide +kernel
theorem dX6_advance_60 : decode cX6_advance 60 = .ok (.iconst 1, 1) := by decide +kernel
theorem dX6_advance_61 : decode cX6_advance 61 = .ok (.ireturn, 1) := by decide +kernel
theorem dX6_shortestEdge_0 : decode cX6_shortestEdge 0 = .ok (.iconst (-1), 1) := by decide +kernel
theorem dX6_shortestEdge_1 : decode cX6_shortestEdge 1 = .ok (.istore_n 1, 1) := by decide +kernel
theorem dX6_shortestEdge_2 : decode cX6_shortestEdge 2 = .ok (.ldc 63, 2) := by decide +kernel
theorem dX6_shortestEdge_4 : decode cX6_shortestEdge 4 = .ok (.istore_n 2, 1) := by decide +kernel
theorem dX6_shortestEdge_5 : decode cX6_shortestEdge 5 = .ok (.iconst 0, 1) := by decide +kernel
theorem dX6_shortestEdge_6 : decode cX6_shortestEdge 6 = .ok (.istore_n 3, 1) := by decide +kernel
theorem dX6_shortestEdge_7 : decode cX6_shortestEdge 7 = .ok (.iload_n 3, 1) := by decide +kernel
theorem dX6_shortestEdge_8 : decode cX6_shortestEdge 8 = .ok (.aload_n 0, 1) := by decide +kernel
theorem dX6_shortestEdge_9 : decode cX6_shortestEdge 9 = .ok (.getfield 30, 3) := by decide +kernel
theorem dX6_shortestEdge_12 : decode cX6_shortestEdge 12 = .ok (.invokevirtual 64, 3) := by decide +kernel
theorem dX6_shortestEdge_15 : decode cX6_shortestEdge 15 = .ok (.if_icmp .ge 120, 3) := by decide +kernel
theorem dX6_shortestEdge_18 : decode cX6_shortestEdge 18 = .ok (.aload_n 0, 1) := by decide +kernel
theorem dX6_shortestEdge_19 : decode cX6_shortestEdge 19 = .ok (.getfield 30, 3) := by decide +kernel
theorem dX6_shortestEdge_22 : decode cX6_shortestEdge 22 = .ok (.iload_n 3, 1) := by decide +kernel
theorem dX6_shortestEdge_23 : decode cX6_shortestEdge 23 = .ok (.invokevirtual 69, 3) := by decide +kernel
theorem dX6_shortestEdge_26 : decode cX6_shortestEdge 26 = .ok (.istore 4, 2) := by decide +kernel
theorem dX6_shortestEdge_28 : decode cX6_shortestEdge 28 = .ok (.aload_n 0, 1) := by decide +kernel
theorem dX6_shortestEdge_29 : decode cX6_shortestEdge 29 = .ok (.getfield 30, 3) := by decide +kernel
theorem dX6_shortestEdge_32 : decode cX6_shortestEdge 32 = .ok (.iload 4, 2) := by decide +kernel
theorem dX6_shortestEdge_34 : decode cX6_shortestEdge 34 = .ok (.invokevirtual 73, 3) := by decide +kernel
theorem dX6_shortestEdge_37 : decode cX6_shortestEdge 37 = .ok (.istore 5, 2) := by decide +kernel
theorem dX6_shortestEdge_39 : decode cX6_shortestEdge 39 = .ok (.aload_n 0, 1) := by decide +kernel
theorem dX6_shortestEdge_40 : decode cX6_shortestEdge 40 = .ok (.getfield 27, 3) := by decide +kernel
theorem dX6_shortestEdge_43 : decode cX6_shortestEdge 43 = .ok (.iload 4, 2) := by decide +kernel
theorem dX6_shortestEdge_45 : decode cX6_shortestEdge 45 = .ok (.invokestatic 51, 3) := by decide +kernel
theorem dX6_shortestEdge_48 : decode cX6_shortestEdge 48 = .ok (.aload_n 0, 1) := by decide +kernel
theorem dX6_shortestEdge_49 : decode cX6_shortestEdge 49 = .ok (.getfield 24, 3) := by decide +kernel
theorem dX6_shortestEdge_52 : decode cX6_shortestEdge 52 = .ok (.iload 5, 2) := by decide +kernel
theorem dX6_shortestEdge_54 : decode cX6_shortestEdge 54 = .ok (.invokestatic 51, 3) := by decide +kernel
theorem dX6_shortestEdge_57 : decode cX6_shortestEdge 57 = .ok (.if_icmp .ge 72, 3) := by decide +kernel
theorem dX6_shortestEdge_60 : decode cX6_shortestEdge 60 = .ok (.aload_n 0, 1) := by decide +kernel
theorem dX6_shortestEdge_61 : decode cX6_shortestEdge 61 = .ok (.getfield 24, 3) := by decide +kernel
theorem dX6_shortestEdge_64 : decode cX6_shortestEdge 64 = .ok (.aload_n 0, 1) := by decide +kernel
theorem dX6_shortestEdge_65 : decode cX6_shortestEdge 65 = .ok (.getfield 30, 3) := by decide +kernel
theorem dX6_shortestEdge_68 : decode cX6_shortestEdge 68 = .ok (.iload 4, 2) := by decide +kernel
theorem dX6_shortestEdge_70 : decode cX6_shortestEdge 70 = .ok (.invokevirtual 76, 3) := by decide +kernel
theorem dX6_shortestEdge_73 : decode cX6_shortestEdge 73 = .ok (.invokestatic 51, 3) := by decide +kernel
theorem dX6_shortestEdge_76 : decode cX6_shortestEdge 76 = .ok (.bipush 50, 2) := by decide +kernel
theorem dX6_shortestEdge_78 : decode cX6_shortestEdge 78 = .ok (.if_icmp .lt 6, 3) := by decide +kernel
theorem dX6_shortestEdge_81 : decode cX6_shortestEdge 81 = .ok (.goto 48, 3) := by decide +kernel
theorem dX6_shortestEdge_84 : decode cX6_shortestEdge 84 = .ok (.aload_n 0, 1) := by decide +kernel
theorem dX6_shortestEdge_85 : decode cX6_shortestEdge 85 = .ok (.getfield 30, 3) := by decide +kernel
theorem dX6_shortestEdge_88 : decode cX6_shortestEdge 88 = .ok (.iload 4, 2) := by decide +kernel
theorem dX6_shortestEdge_90 : decode cX6_shortestEdge 90 = .ok (.invokevirtual 79, 3) := by decide +kernel
theorem dX6_shortestEdge_93 : decode cX6_shortestEdge 93 = .ok (.aload_n 0, 1) := by decide +kernel
theorem dX6_shortestEdge_94 : decode cX6_shortestEdge 94 = .ok (.getfield 11, 3) := by decide +kernel
theorem dX6_shortestEdge_97 : decode cX6_shortestEdge 97 = .ok (.iload 5, 2) := by decide +kernel
theorem dX6_shortestEdge_99 : decode cX6_shortestEdge 99 = .ok (.aload_n 0, 1) := by decide +kernel
theorem dX6_shortestEdge_100 : decode cX6_shortestEdge 100 = .ok (.getfield 27, 3) := by decide +kernel
theorem dX6_shortestEdge_103 : decode cX6_shortestEdge 103 = .ok (.iload 4, 2) := by decide +kernel
theorem dX6_shortestEdge_105 : decode cX6_shortestEdge 105 = .ok (.invokestatic 51, 3) := by decide +kernel
theorem dX6_shortestEdge_108 : decode cX6_shortestEdge 108 = .ok (.invokestatic 82, 3) := by decide +kernel
theorem dX6_shortestEdge_111 : decode cX6_shortestEdge 111 = .ok (.invokestatic 51, 3) := by decide +kernel
theorem dX6_shortestEdge_114 : decode cX6_shortestEdge 114 = .ok (.iadd, 1) := by decide +kernel
theorem dX6_shortestEdge_115 : decode cX6_shortestEdge 115 = .ok (.istore 6, 2) := by decide +kernel
theorem dX6_shortestEdge_117 : decode cX6_shortestEdge 117 = .ok (.iload 6, 2) := by decide +kernel
theorem dX6_shortestEdge_119 : decode cX6_shortestEdge 119 = .ok (.iload_n 2, 1) := by decide +kernel
theorem dX6_shortestEdge_120 : decode cX6_shortestEdge 120 = .ok (.if_icmp .ge 9, 3) := by decide +kernel
theorem dX6_shortestEdge_123 : decode cX6_shortestEdge 123 = .ok (.iload 6, 2) := by decide +kernel
theorem dX6_shortestEdge_125 : decode cX6_shortestEdge 125 = .ok (.istore_n 2, 1) := by decide +kernel
theorem dX6_shortestEdge_126 : decode cX6_shortestEdge 126 = .ok (.iload 4, 2) := by decide +kernel
theorem dX6_shortestEdge_128 : decode cX6_shortestEdge 128 = .ok (.istore_n 1, 1) := by decide +kernel
theorem dX6_shortestEdge_129 : decode cX6_shortestEdge 129 = .ok (.iinc 3 1, 3) := by decide +kernel
theorem dX6_shortestEdge_132 : decode cX6_shortestEdge 132 = .ok (.goto (-125), 3) := by decide +kernel
theorem dX6_shortestEdge_135 : decode cX6_shortestEdge 135 = .ok (.iload_n 1, 1) := by decide +kernel
theorem dX6_shortestEdge_136 : decode cX6_shortestEdge 136 = .ok (.ireturn, 1) := by decide +kernel
theorem dX6_putAhead_0 : decode cX6_putAhead 0 = .ok (.aload_n 0, 1) := by decide +kernel
theorem dX6_putAhead_1 : decode cX6_putAhead 1 = .ok (.getfield 30, 3) := by decide +kernel
theorem dX6_putAhead_4 : decode cX6_putAhead 4 = .ok (.iload_n 1, 1) := by decide +kernel
theorem dX6_putAhead_5 : decode cX6_putAhead 5 = .ok (.invokevirtual 73, 3) := by decide +kernel
theorem dX6_putAhead_8 : decode cX6_putAhead 8 = .ok (.aload_n 0, 1) := by decide +kernel
theorem dX6_putAhead_9 : decode cX6_putAhead 9 = .ok (.getfield 27, 3) := by decide +kernel
theorem dX6_putAhead_12 : decode cX6_putAhead 12 = .ok (.iload_n 1, 1) := by decide +kernel
theorem dX6_putAhead_13 : decode cX6_putAhead 13 = .ok (.invokestatic 51, 3) := by decide +kernel
theorem dX6_putAhead_16 : decode cX6_putAhead 16 = .ok (.invokestatic 82, 3) := by decide +kernel
theorem dX6_putAhead_19 : decode cX6_putAhead 19 = .ok (.istore_n 2, 1) := by decide +kernel
theorem dX6_putAhead_20 : decode cX6_putAhead 20 = .ok (.aload_n 0, 1) := by decide +kernel
theorem dX6_putAhead_21 : decode cX6_putAhead 21 = .ok (.getfield 30, 3) := by decide +kernel
theorem dX6_putAhead_24 : decode cX6_putAhead 24 = .ok (.iload_n 1, 1) := by decide +kernel
theorem dX6_putAhead_25 : decode cX6_putAhead 25 = .ok (.invokevirtual 79, 3) := by decide +kernel
theorem dX6_putAhead_28 : decode cX6_putAhead 28 = .ok (.aload_n 0, 1) := by decide +kernel
theorem dX6_putAhead_29 : decode cX6_putAhead 29 = .ok (.getfield 11, 3) := by decide +kernel
theorem dX6_putAhead_32 : decode cX6_putAhead 32 = .ok (.iload_n 2, 1) := by decide +kernel
theorem dX6_putAhead_33 : decode cX6_putAhead 33 = .ok (.invokestatic 51, 3) := by decide +kernel
theorem dX6_putAhead_36 : decode cX6_putAhead 36 = .ok (.iadd, 1) := by decide +kernel
theorem dX6_putAhead_37 : decode cX6_putAhead 37 = .ok (.istore_n 3, 1) := by decide +kernel
theorem dX6_putAhead_38 : decode cX6_putAhead 38 = .ok (.aload_n 0, 1) := by decide +kernel
theorem dX6_putAhead_39 : decode cX6_putAhead 39 = .ok (.getfield 27, 3) := by decide +kernel
theorem dX6_putAhead_42 : decode cX6_putAhead 42 = .ok (.iload_n 1, 1) := by decide +kernel
theorem dX6_putAhead_43 : decode cX6_putAhead 43 = .ok (.aload_n 0, 1) := by decide +kernel
theorem dX6_putAhead_44 : decode cX6_putAhead 44 = .ok (.getfield 27, 3) := by decide +kernel
theorem dX6_putAhead_47 : decode cX6_putAhead 47 = .ok (.iload_n 1, 1) := by decide +kernel
theorem dX6_putAhead_48 : decode cX6_putAhead 48 = .ok (.invokestatic 51, 3) := by decide +kernel
theorem dX6_putAhead_51 : decode cX6_putAhead 51 = .ok (.iconst 1, 1) := by decide +kernel
theorem dX6_putAhead_52 : decode cX6_putAhead 52 = .ok (.iadd, 1) := by decide +kernel
theorem dX6_putAhead_53 : decode cX6_putAhead 53 = .ok (.invokestatic 86, 3) := by decide +kernel
theorem dX6_putAhead_56 : decode cX6_putAhead 56 = .ok (.aload_n 0, 1) := by decide +kernel
theorem dX6_putAhead_57 : decode cX6_putAhead 57 = .ok (.aload_n 0, 1) := by decide +kernel
theorem dX6_putAhead_58 : decode cX6_putAhead 58 = .ok (.getfield 30, 3) := by decide +kernel
theorem dX6_putAhead_61 : decode cX6_putAhead 61 = .ok (.iload_n 1, 1) := by decide +kernel
theorem dX6_putAhead_62 : decode cX6_putAhead 62 = .ok (.invokevirtual 76, 3) := by decide +kernel
theorem dX6_putAhead_65 : decode cX6_putAhead 65 = .ok (.iload_n 3, 1) := by decide +kernel
theorem dX6_putAhead_66 : decode cX6_putAhead 66 = .ok (.aload_n 0, 1) := by decide +kernel
theorem dX6_putAhead_67 : decode cX6_putAhead 67 = .ok (.getfield 15, 3) := by decide +kernel
theorem dX6_putAhead_70 : decode cX6_putAhead 70 = .ok (.iload_n 2, 1) := by decide +kernel
theorem dX6_putAhead_71 : decode cX6_putAhead 71 = .ok (.invokestatic 51, 3) := by decide +kernel
theorem dX6_putAhead_74 : decode cX6_putAhead 74 = .ok (.iconst 1, 1) := by decide +kernel
theorem dX6_putAhead_75 : decode cX6_putAhead 75 = .ok (.iadd, 1) := by decide +kernel
theorem dX6_putAhead_76 : decode cX6_putAhead 76 = .ok (.iload_n 1, 1) := by decide +kernel
theorem dX6_putAhead_77 : decode cX6_putAhead 77 = .ok (.iload_n 2, 1) := by decide +kernel
theorem dX6_putAhead_78 : decode cX6_putAhead 78 = .ok (.invokevirtual 47, 3) := by decide +kernel
theorem dX6_putAhead_81 : decode cX6_putAhead 81 = .ok (.return_, 1) := by decide +kernel
theorem dX6_list_0 : decode cX6_list 0 = .ok (.iload_n 1, 1) := by decide +kernel
theorem dX6_list_1 : decode cX6_list 1 = .ok (.aload_n 0, 1) := by decide +kernel
theorem dX6_list_2 : decode cX6_list 2 = .ok (.getfield 24, 3) := by decide +kernel
theorem dX6_list_5 : decode cX6_list 5 = .ok (.iload_n 1, 1) := by decide +kernel
theorem dX6_list_6 : decode cX6_list 6 = .ok (.invokestatic 51, 3) := by decide +kernel
theorem dX6_list_9 : decode cX6_list 9 = .ok (.invokestatic 82, 3) := by decide +kernel
theorem dX6_list_12 : decode cX6_list 12 = .ok (.istore 6, 2) := by decide +kernel
theorem dX6_list_14 : decode cX6_list 14 = .ok (.aload_n 0, 1) := by decide +kernel
theorem dX6_list_15 : decode cX6_list 15 = .ok (.getfield 11, 3) := by decide +kernel
theorem dX6_list_18 : decode cX6_list 18 = .ok (.iload 6, 2) := by decide +kernel
theorem dX6_list_20 : decode cX6_list 20 = .ok (.iload_n 2, 1) := by decide +kernel
theorem dX6_list_21 : decode cX6_list 21 = .ok (.invokestatic 86, 3) := by decide +kernel
theorem dX6_list_24 : decode cX6_list 24 = .ok (.aload_n 0, 1) := by decide +kernel
theorem dX6_list_25 : decode cX6_list 25 = .ok (.getfield 15, 3) := by decide +kernel
theorem dX6_list_28 : decode cX6_list 28 = .ok (.iload 6, 2) := by decide +kernel
theorem dX6_list_30 : decode cX6_list 30 = .ok (.iload_n 3, 1) := by decide +kernel
theorem dX6_list_31 : decode cX6_list 31 = .ok (.invokestatic 86, 3) := by decide +kernel
theorem dX6_list_34 : decode cX6_list 34 = .ok (.aload_n 0, 1) := by decide +kernel
theorem dX6_list_35 : decode cX6_list 35 = .ok (.getfield 18, 3) := by decide +kernel
theorem dX6_list_38 : decode cX6_list 38 = .ok (.iload 6, 2) := by decide +kernel
theorem dX6_list_40 : decode cX6_list 40 = .ok (.iload 4, 2) := by decide +kernel
theorem dX6_list_42 : decode cX6_list 42 = .ok (.invokestatic 86, 3) := by decide +kernel
theorem dX6_list_45 : decode cX6_list 45 = .ok (.aload_n 0, 1) := by decide +kernel
theorem dX6_list_46 : decode cX6_list 46 = .ok (.getfield 21, 3) := by decide +kernel
theorem dX6_list_49 : decode cX6_list 49 = .ok (.iload 6, 2) := by decide +kernel
theorem dX6_list_51 : decode cX6_list 51 = .ok (.iload 5, 2) := by decide +kernel
theorem dX6_list_53 : decode cX6_list 53 = .ok (.invokestatic 86, 3) := by decide +kernel
theorem dX6_list_56 : decode cX6_list 56 = .ok (.aload_n 0, 1) := by decide +kernel
theorem dX6_list_57 : decode cX6_list 57 = .ok (.getfield 24, 3) := by decide +kernel
theorem dX6_list_60 : decode cX6_list 60 = .ok (.iload_n 1, 1) := by decide +kernel
theorem dX6_list_61 : decode cX6_list 61 = .ok (.aload_n 0, 1) := by decide +kernel
theorem dX6_list_62 : decode cX6_list 62 = .ok (.getfield 24, 3) := by decide +kernel
theorem dX6_list_65 : decode cX6_list 65 = .ok (.iload_n 1, 1) := by decide +kernel
theorem dX6_list_66 : decode cX6_list 66 = .ok (.invokestatic 51, 3) := by decide +kernel
theorem dX6_list_69 : decode cX6_list 69 = .ok (.iconst 1, 1) := by decide +kernel
theorem dX6_list_70 : decode cX6_list 70 = .ok (.iadd, 1) := by decide +kernel
theorem dX6_list_71 : decode cX6_list 71 = .ok (.invokestatic 86, 3) := by decide +kernel
theorem dX6_list_74 : decode cX6_list 74 = .ok (.return_, 1) := by decide +kernel
theorem dX6_entry_0 : decode cX6_entry 0 = .ok (.iload_n 0, 1) := by decide +kernel
theorem dX6_entry_1 : decode cX6_entry 1 = .ok (.bipush 50, 2) := by decide +kernel
theorem dX6_entry_3 : decode cX6_entry 3 = .ok (.imul, 1) := by decide +kernel
theorem dX6_entry_4 : decode cX6_entry 4 = .ok (.iload_n 1, 1) := by decide +kernel
theorem dX6_entry_5 : decode cX6_entry 5 = .ok (.iadd, 1) := by decide +kernel
theorem dX6_entry_6 : decode cX6_entry 6 = .ok (.ireturn, 1) := by decide +kernel
theorem dX6_currentEntry_0 : decode cX6_currentEntry 0 = .ok (.aload_n 0, 1) := by decide +kernel
theorem dX6_currentEntry_1 : decode cX6_currentEntry 1 = .ok (.getfield 34, 3) := by decide +kernel
theorem dX6_currentEntry_4 : decode cX6_currentEntry 4 = .ok (.aload_n 0, 1) := by decide +kernel
theorem dX6_currentEntry_5 : decode cX6_currentEntry 5 = .ok (.getfield 38, 3) := by decide +kernel
theorem dX6_currentEntry_8 : decode cX6_currentEntry 8 = .ok (.iconst 1, 1) := by decide +kernel
theorem dX6_currentEntry_9 : decode cX6_currentEntry 9 = .ok (.isub, 1) := by decide +kernel
theorem dX6_currentEntry_10 : decode cX6_currentEntry 10 = .ok (.invokestatic 82, 3) := by decide +kernel
theorem dX6_currentEntry_13 : decode cX6_currentEntry 13 = .ok (.ireturn, 1) := by decide +kernel
theorem dX6_drawnTotal_0 : decode cX6_drawnTotal 0 = .ok (.aload_n 0, 1) := by decide +kernel
theorem dX6_drawnTotal_1 : decode cX6_drawnTotal 1 = .ok (.getfield 38, 3) := by decide +kernel
theorem dX6_drawnTotal_4 : decode cX6_drawnTotal 4 = .ok (.ireturn, 1) := by decide +kernel
theorem dX6_currentLength_0 : decode cX6_currentLength 0 = .ok (.aload_n 0, 1) := by decide +kernel
theorem dX6_currentLength_1 : decode cX6_currentLength 1 = .ok (.getfield 11, 3) := by decide +kernel
theorem dX6_currentLength_4 : decode cX6_currentLength 4 = .ok (.aload_n 0, 1) := by decide +kernel
theorem dX6_currentLength_5 : decode cX6_currentLength 5 = .ok (.invokevirtual 90, 3) := by decide +kernel
theorem dX6_currentLength_8 : decode cX6_currentLength 8 = .ok (.invokestatic 51, 3) := by decide +kernel
theorem dX6_currentLength_11 : decode cX6_currentLength 11 = .ok (.ireturn, 1) := by decide +kernel
theorem dX6_currentSize_0 : decode cX6_currentSize 0 = .ok (.aload_n 0, 1) := by decide +kernel
theorem dX6_currentSize_1 : decode cX6_currentSize 1 = .ok (.getfield 15, 3) := by decide +kernel
theorem dX6_currentSize_4 : decode cX6_currentSize 4 = .ok (.aload_n 0, 1) := by decide +kernel
theorem dX6_currentSize_5 : decode cX6_currentSize 5 = .ok (.invokevirtual 90, 3) := by decide +kernel
theorem dX6_currentSize_8 : decode cX6_currentSize 8 = .ok (.invokestatic 51, 3) := by decide +kernel
theorem dX6_currentSize_11 : decode cX6_currentSize 11 = .ok (.ireturn, 1) := by decide +kernel
theorem dX6_currentEdge_0 : decode cX6_currentEdge 0 = .ok (.iload_n 1, 1) := by decide +kernel
theorem dX6_currentEdge_1 : decode cX6_currentEdge 1 = .ok (.ifCond .lt 11, 3) := by decide +kernel
theorem dX6_currentEdge_4 : decode cX6_currentEdge 4 = .ok (.iload_n 1, 1) := by decide +kernel
theorem dX6_currentEdge_5 : decode cX6_currentEdge 5 = .ok (.aload_n 0, 1) := by decide +kernel
theorem dX6_currentEdge_6 : decode cX6_currentEdge 6 = .ok (.invokevirtual 93, 3) := by decide +kernel
theorem dX6_currentEdge_9 : decode cX6_currentEdge 9 = .ok (.if_icmp .lt 5, 3) := by decide +kernel
theorem dX6_currentEdge_12 : decode cX6_currentEdge 12 = .ok (.iconst (-1), 1) := by decide +kernel
theorem dX6_currentEdge_13 : decode cX6_currentEdge 13 = .ok (.ireturn, 1) := by decide +kernel
theorem dX6_currentEdge_14 : decode cX6_currentEdge 14 = .ok (.aload_n 0, 1) := by decide +kernel
theorem dX6_currentEdge_15 : decode cX6_currentEdge 15 = .ok (.invokevirtual 90, 3) := by decide +kernel
theorem dX6_currentEdge_18 : decode cX6_currentEdge 18 = .ok (.istore_n 2, 1) := by decide +kernel
theorem dX6_currentEdge_19 : decode cX6_currentEdge 19 = .ok (.iconst 0, 1) := by decide +kernel
theorem dX6_currentEdge_20 : decode cX6_currentEdge 20 = .ok (.istore_n 3, 1) := by decide +kernel
theorem dX6_currentEdge_21 : decode cX6_currentEdge 21 = .ok (.iload_n 3, 1) := by decide +kernel
theorem dX6_currentEdge_22 : decode cX6_currentEdge 22 = .ok (.iload_n 1, 1) := by decide +kernel
theorem dX6_currentEdge_23 : decode cX6_currentEdge 23 = .ok (.if_icmp .ge 18, 3) := by decide +kernel
theorem dX6_currentEdge_26 : decode cX6_currentEdge 26 = .ok (.aload_n 0, 1) := by decide +kernel
theorem dX6_currentEdge_27 : decode cX6_currentEdge 27 = .ok (.getfield 21, 3) := by decide +kernel
theorem dX6_currentEdge_30 : decode cX6_currentEdge 30 = .ok (.iload_n 2, 1) := by decide +kernel
theorem dX6_currentEdge_31 : decode cX6_currentEdge 31 = .ok (.invokestatic 51, 3) := by decide +kernel
theorem dX6_currentEdge_34 : decode cX6_currentEdge 34 = .ok (.istore_n 2, 1) := by decide +kernel
theorem dX6_currentEdge_35 : decode cX6_currentEdge 35 = .ok (.iinc 3 1, 3) := by decide +kernel
theorem dX6_currentEdge_38 : decode cX6_currentEdge 38 = .ok (.goto (-17), 3) := by decide +kernel
theorem dX6_currentEdge_41 : decode cX6_currentEdge 41 = .ok (.aload_n 0, 1) := by decide +kernel
theorem dX6_currentEdge_42 : decode cX6_currentEdge 42 = .ok (.getfield 18, 3) := by decide +kernel
theorem dX6_currentEdge_45 : decode cX6_currentEdge 45 = .ok (.iload_n 2, 1) := by decide +kernel
theorem dX6_currentEdge_46 : decode cX6_currentEdge 46 = .ok (.invokestatic 51, 3) := by decide +kernel
theorem dX6_currentEdge_49 : decode cX6_currentEdge 49 = .ok (.ireturn, 1) := by decide +kernel
theorem dX7_init_0 : decode cX7_init 0 = .ok (.aload_n 0, 1) := by decide +kernel
theorem dX7_init_1 : decode cX7_init 1 = .ok (.invokespecial 1, 3) := by decide +kernel
theorem dX7_init_4 : decode cX7_init 4 = .ok (.new 7, 3) := by decide +kernel
theorem dX7_init_7 : decode cX7_init 7 = .ok (.dup, 1) := by decide +kernel
theorem dX7_init_8 : decode cX7_init 8 = .ok (.invokespecial 9, 3) := by decide +kernel
theorem dX7_init_11 : decode cX7_init 11 = .ok (.astore_n 1, 1) := by decide +kernel
theorem dX7_init_12 : decode cX7_init 12 = .ok (.aload_n 0, 1) := by decide +kernel
theorem dX7_init_13 : decode cX7_init 13 = .ok (.aload_n 1, 1) := by decide +kernel
theorem dX7_init_14 : decode cX7_init 14 = .ok (.putfield 10, 3) := by decide +kernel
theorem dX7_init_17 : decode cX7_init 17 = .ok (.aload_n 0, 1) := by decide +kernel
theorem dX7_init_18 : decode cX7_init 18 = .ok (.new 16, 3) := by decide +kernel
theorem dX7_init_21 : decode cX7_init 21 = .ok (.dup, 1) := by decide +kernel
theorem dX7_init_22 : decode cX7_init 22 = .ok (.aload_n 1, 1) := by decide +kernel
theorem dX7_init_23 : decode cX7_init 23 = .ok (.invokespecial 18, 3) := by decide +kernel
theorem dX7_init_26 : decode cX7_init 26 = .ok (.putfield 21, 3) := by decide +kernel
theorem dX7_init_29 : decode cX7_init 29 = .ok (.aload_n 0, 1) := by decide +kernel
theorem dX7_init_30 : decode cX7_init 30 = .ok (.new 25, 3) := by decide +kernel
theorem dX7_init_33 : decode cX7_init 33 = .ok (.dup, 1) := by decide +kernel
theorem dX7_init_34 : decode cX7_init 34 = .ok (.aload_n 1, 1) := by decide +kernel
theorem dX7_init_35 : decode cX7_init 35 = .ok (.invokespecial 27, 3) := by decide +kernel
theorem dX7_init_38 : decode cX7_init 38 = .ok (.putfield 28, 3) := by decide +kernel
theorem dX7_init_41 : decode cX7_init 41 = .ok (.aload_n 0, 1) := by decide +kernel
theorem dX7_init_42 : decode cX7_init 42 = .ok (.new 32, 3) := by decide +kernel
theorem dX7_init_45 : decode cX7_init 45 = .ok (.dup, 1) := by decide +kernel
theorem dX7_init_46 : decode cX7_init 46 = .ok (.aload_n 1, 1) := by decide +kernel
theorem dX7_init_47 : decode cX7_init 47 = .ok (.invokespecial 34, 3) := by decide +kernel
theorem dX7_init_50 : decode cX7_init 50 = .ok (.putfield 35, 3) := by decide +kernel
theorem dX7_init_53 : decode cX7_init 53 = .ok (.aload_n 0, 1) := by decide +kernel
theorem dX7_init_54 : decode cX7_init 54 = .ok (.new 39, 3) := by decide +kernel
theorem dX7_init_57 : decode cX7_init 57 = .ok (.dup, 1) := by decide +kernel
theorem dX7_init_58 : decode cX7_init 58 = .ok (.aload_n 1, 1) := by decide +kernel
theorem dX7_init_59 : decode cX7_init 59 = .ok (.invokespecial 41, 3) := by decide +kernel
theorem dX7_init_62 : decode cX7_init 62 = .ok (.putfield 42, 3) := by decide +kernel
theorem dX7_init_65 : decode cX7_init 65 = .ok (.aload_n 0, 1) := by decide +kernel
theorem dX7_init_66 : decode cX7_init 66 = .ok (.new 46, 3) := by decide +kernel
theorem dX7_init_69 : decode cX7_init 69 = .ok (.dup, 1) := by decide +kernel
theorem dX7_init_70 : decode cX7_init 70 = .ok (.aload_n 1, 1) := by decide +kernel
theorem dX7_init_71 : decode cX7_init 71 = .ok (.invokespecial 48, 3) := by decide +kernel
theorem dX7_init_74 : decode cX7_init 74 = .ok (.putfield 49, 3) := by decide +kernel
theorem dX7_init_77 : decode cX7_init 77 = .ok (.aload_n 0, 1) := by decide +kernel
theorem dX7_init_78 : decode cX7_init 78 = .ok (.new 53, 3) := by decide +kernel
theorem dX7_init_81 : decode cX7_init 81 = .ok (.dup, 1) := by decide +kernel
theorem dX7_init_82 : decode cX7_init 82 = .ok (.aload_n 1, 1) := by decide +kernel
theorem dX7_init_83 : decode cX7_init 83 = .ok (.invokespecial 55, 3) := by decide +kernel
theorem dX7_init_86 : decode cX7_init 86 = .ok (.putfield 56, 3) := by decide +kernel
theorem dX7_init_89 : decode cX7_init 89 = .ok (.return_, 1) := by decide +kernel
theorem dX7_begin_0 : decode cX7_begin 0 = .ok (.iload_n 1, 1) := by decide +kernel
theorem dX7_begin_1 : decode cX7_begin 1 = .ok (.iconst 2, 1) := by decide +kernel
theorem dX7_begin_2 : decode cX7_begin 2 = .ok (.bipush 10, 2) := by decide +kernel
theorem dX7_begin_4 : decode cX7_begin 4 = .ok (.invokestatic 60, 3) := by decide +kernel
theorem dX7_begin_7 : decode cX7_begin 7 = .ok (.aload_n 0, 1) := by decide +kernel
theorem dX7_begin_8 : decode cX7_begin 8 = .ok (.getfield 10, 3) := by decide +kernel
theorem dX7_begin_11 : decode cX7_begin 11 = .ok (.iload_n 1, 1) := by decide +kernel
theorem dX7_begin_12 : decode cX7_begin 12 = .ok (.invokevirtual 64, 3) := by decide +kernel
theorem dX7_begin_15 : decode cX7_begin 15 = .ok (.aload_n 0, 1) := by decide +kernel
theorem dX7_begin_16 : decode cX7_begin 16 = .ok (.invokevirtual 68, 3) := by decide +kernel
theorem dX7_begin_19 : decode cX7_begin 19 = .ok (.return_, 1) := by decide +kernel
theorem dX7_addEdge_0 : decode cX7_addEdge 0 = .ok (.aload_n 0, 1) := by decide +kernel
theorem dX7_addEdge_1 : decode cX7_addEdge 1 = .ok (.iload_n 1, 1) := by decide +kernel
theorem dX7_addEdge_2 : decode cX7_addEdge 2 = .ok (.iload_n 2, 1) := by decide +kernel
theorem dX7_addEdge_3 : decode cX7_addEdge 3 = .ok (.invokevirtual 71, 3) := by decide +kernel
theorem dX7_addEdge_6 : decode cX7_addEdge 6 = .ok (.iload_n 3, 1) := by decide +kernel
theorem dX7_addEdge_7 : decode cX7_addEdge 7 = .ok (.iconst 1, 1) := by decide +kernel
theorem dX7_addEdge_8 : decode cX7_addEdge 8 = .ok (.sipush 1000, 3) := by decide +kernel
theorem dX7_addEdge_11 : decode cX7_addEdge 11 = .ok (.invokestatic 60, 3) := by decide +kernel
theorem dX7_addEdge_14 : decode cX7_addEdge 14 = .ok (.aload_n 0, 1) := by decide +kernel
theorem dX7_addEdge_15 : decode cX7_addEdge 15 = .ok (.getfield 10, 3) := by decide +kernel
theorem dX7_addEdge_18 : decode cX7_addEdge 18 = .ok (.invokevirtual 75, 3) := by decide +kernel
theorem dX7_addEdge_21 : decode cX7_addEdge 21 = .ok (.ifCond .ne 13, 3) := by decide +kernel
theorem dX7_addEdge_24 : decode cX7_addEdge 24 = .ok (.new 79, 3) := by decide +kernel
theorem dX7_addEdge_27 : decode cX7_addEdge 27 = .ok (.dup, 1) := by decide +kernel
theorem dX7_addEdge_28 : decode cX7_addEdge 28 = .ok (.ldc 81, 2) := by decide +kernel
theorem dX7_addEdge_30 : decode cX7_addEdge 30 = .ok (.invokespecial 83, 3) := by decide +kernel
theorem dX7_addEdge_33 : decode cX7_addEdge 33 = .ok (.athrow, 1) := by decide +kernel
theorem dX7_addEdge_34 : decode cX7_addEdge 34 = .ok (.aload_n 0, 1) := by decide +kernel
theorem dX7_addEdge_35 : decode cX7_addEdge 35 = .ok (.invokevirtual 68, 3) := by decide +kernel
theorem dX7_addEdge_38 : decode cX7_addEdge 38 = .ok (.aload_n 0, 1) := by decide +kernel
theorem dX7_addEdge_39 : decode cX7_addEdge 39 = .ok (.getfield 10, 3) := by decide +kernel
theorem dX7_addEdge_42 : decode cX7_addEdge 42 = .ok (.iload_n 1, 1) := by decide +kernel
theorem dX7_addEdge_43 : decode cX7_addEdge 43 = .ok (.iload_n 2, 1) := by decide +kernel
theorem dX7_addEdge_44 : decode cX7_addEdge 44 = .ok (.iload_n 3, 1) := by decide +kernel
theorem dX7_addEdge_45 : decode cX7_addEdge 45 = .ok (.invokevirtual 86, 3) := by decide +kernel
theorem dX7_addEdge_48 : decode cX7_addEdge 48 = .ok (.ireturn, 1) := by decide +kernel
theorem dX7_setLength_0 : decode cX7_setLength 0 = .ok (.aload_n 0, 1) := by decide +kernel
theorem dX7_setLength_1 : decode cX7_setLength 1 = .ok (.iload_n 1, 1) := by decide +kernel
theorem dX7_setLength_2 : decode cX7_setLength 2 = .ok (.invokevirtual 90, 3) := by decide +kernel
theorem dX7_setLength_5 : decode cX7_setLength 5 = .ok (.iload_n 2, 1) := by decide +kernel
theorem dX7_setLength_6 : decode cX7_setLength 6 = .ok (.iconst 1, 1) := by decide +kernel
theorem dX7_setLength_7 : decode cX7_setLength 7 = .ok (.sipush 1000, 3) := by decide +kernel
theorem dX7_setLength_10 : decode cX7_setLength 10 = .ok (.invokestatic 60, 3) := by decide +kernel
theorem dX7_setLength_13 : decode cX7_setLength 13 = .ok (.aload_n 0, 1) := by decide +kernel
theorem dX7_setLength_14 : decode cX7_setLength 14 = .ok (.invokevirtual 68, 3) := by decide +kernel
theorem dX7_setLength_17 : decode cX7_setLength 17 = .ok (.aload_n 0, 1) := by decide +kernel
theorem dX7_setLength_18 : decode cX7_setLength 18 = .ok (.getfield 10, 3) := by decide +kernel
theorem dX7_setLength_21 : decode cX7_setLength 21 = .ok (.iload_n 1, 1) := by decide +kernel
theorem dX7_setLength_22 : decode cX7_setLength 22 = .ok (.iload_n 2, 1) := by decide +kernel
theorem dX7_setLength_23 : decode cX7_setLength 23 = .ok (.invokevirtual 93, 3) := by decide +kernel
theorem dX7_setLength_26 : decode cX7_setLength 26 = .ok (.ireturn, 1) := by decide +kernel
theorem dX7_toggleEdge_0 : decode cX7_toggleEdge 0 = .ok (.aload_n 0, 1) := by decide +kernel
theorem dX7_toggleEdge_1 : decode cX7_toggleEdge 1 = .ok (.iload_n 1, 1) := by decide +kernel
theorem dX7_toggleEdge_2 : decode cX7_toggleEdge 2 = .ok (.invokevirtual 90, 3) := by decide +kernel
theorem dX7_toggleEdge_5 : decode cX7_toggleEdge 5 = .ok (.aload_n 0, 1) := by decide +kernel
theorem dX7_toggleEdge_6 : decode cX7_toggleEdge 6 = .ok (.invokevirtual 68, 3) := by decide +kernel
theorem dX7_toggleEdge_9 : decode cX7_toggleEdge 9 = .ok (.aload_n 0, 1) := by decide +kernel
theorem dX7_toggleEdge_10 : decode cX7_toggleEdge 10 = .ok (.getfield 10, 3) := by decide +kernel
theorem dX7_toggleEdge_13 : decode cX7_toggleEdge 13 = .ok (.iload_n 1, 1) := by decide +kernel
theorem dX7_toggleEdge_14 : decode cX7_toggleEdge 14 = .ok (.invokevirtual 97, 3) := by decide +kernel
theorem dX7_toggleEdge_17 : decode cX7_toggleEdge 17 = .ok (.ireturn, 1) := by decide +kernel
theorem dX7_toggleNode_0 : decode cX7_toggleNode 0 = .ok (.aload_n 0, 1) := by decide +kernel
theorem dX7_toggleNode_1 : decode cX7_toggleNode 1 = .ok (.iload_n 1, 1) := by decide +kernel
theorem dX7_toggleNode_2 : decode cX7_toggleNode 2 = .ok (.iload_n 1, 1) := by decide +kernel
theorem dX7_toggleNode_3 : decode cX7_toggleNode 3 = .ok (.invokevirtual 101, 3) := by decide +kernel
theorem dX7_toggleNode_6 : decode cX7_toggleNode 6 = .ok (.aload_n 0, 1) := by decide +kernel
theorem dX7_toggleNode_7 : decode cX7_toggleNode 7 = .ok (.invokevirtual 68, 3) := by decide +kernel
theorem dX7_toggleNode_10 : decode cX7_toggleNode 10 = .ok (.aload_n 0, 1) := by decide +kernel
theorem dX7_toggleNode_11 : decode cX7_toggleNode 11 = .ok (.getfield 10, 3) := by decide +kernel
theorem dX7_toggleNode_14 : decode cX7_toggleNode 14 = .ok (.iload_n 1, 1) := by decide +kernel
theorem dX7_toggleNode_15 : decode cX7_toggleNode 15 = .ok (.invokevirtual 104, 3) := by decide +kernel
theorem dX7_toggleNode_18 : decode cX7_toggleNode 18 = .ok (.ireturn, 1) := by decide +kernel
theorem dX7_toggleTurn_0 : decode cX7_toggleTurn 0 = .ok (.aload_n 0, 1) := by decide +kernel
theorem dX7_toggleTurn_1 : decode cX7_toggleTurn 1 = .ok (.iload_n 1, 1) := by decide +kernel
theorem dX7_toggleTurn_2 : decode cX7_toggleTurn 2 = .ok (.invokevirtual 90, 3) := by decide +kernel
theorem dX7_toggleTurn_5 : decode cX7_toggleTurn 5 = .ok (.aload_n 0, 1) := by decide +kernel
theorem dX7_toggleTurn_6 : decode cX7_toggleTurn 6 = .ok (.iload_n 2, 1) := by decide +kernel
theorem dX7_toggleTurn_7 : decode cX7_toggleTurn 7 = .ok (.invokevirtual 90, 3) := by decide +kernel
theorem dX7_toggleTurn_10 : decode cX7_toggleTurn 10 = .ok (.aload_n 0, 1) := by decide +kernel
theorem dX7_toggleTurn_11 : decode cX7_toggleTurn 11 = .ok (.getfield 10, 3) := by decide +kernel
theorem dX7_toggleTurn_14 : decode cX7_toggleTurn 14 = .ok (.iload_n 1, 1) := by decide +kernel
theorem dX7_toggleTurn_15 : decode cX7_toggleTurn 15 = .ok (.invokevirtual 107, 3) := by decide +kernel
theorem dX7_toggleTurn_18 : decode cX7_toggleTurn 18 = .ok (.aload_n 0, 1) := by decide +kernel
theorem dX7_toggleTurn_19 : decode cX7_toggleTurn 19 = .ok (.getfield 10, 3) := by decide +kernel
theorem dX7_toggleTurn_22 : decode cX7_toggleTurn 22 = .ok (.iload_n 2, 1) := by decide +kernel
theorem dX7_toggleTurn_23 : decode cX7_toggleTurn 23 = .ok (.invokevirtual 111, 3) := by decide +kernel
theorem dX7_toggleTurn_26 : decode cX7_toggleTurn 26 = .ok (.if_icmp .eq 13, 3) := by decide +kernel
theorem dX7_toggleTurn_29 : decode cX7_toggleTurn 29 = .ok (.new 114, 3) := by decide +kernel
theorem dX7_toggleTurn_32 : decode cX7_toggleTurn 32 = .ok (.dup, 1) := by decide +kernel
theorem dX7_toggleTurn_33 : decode cX7_toggleTurn 33 = .ok (.ldc 116, 2) := by decide +kernel
theorem dX7_toggleTurn_35 : decode cX7_toggleTurn 35 = .ok (.invokespecial 118, 3) := by decide +kernel
theorem dX7_toggleTurn_38 : decode cX7_toggleTurn 38 = .ok (.athrow, 1) := by decide +kernel
theorem dX7_toggleTurn_39 : decode cX7_toggleTurn 39 = .ok (.aload_n 0, 1) := by decide +kernel
theorem dX7_toggleTurn_40 : decode cX7_toggleTurn 40 = .ok (.getfield 10, 3) := by decide +kernel
theorem dX7_toggleTurn_43 : decode cX7_toggleTurn 43 = .ok (.iload_n 1, 1) := by decide +kernel
theorem dX7_toggleTurn_44 : decode cX7_toggleTurn 44 = .ok (.iload_n 2, 1) := by decide +kernel
theorem dX7_toggleTurn_45 : decode cX7_toggleTurn 45 = .ok (.invokevirtual 119, 3) := by decide +kernel
theorem dX7_toggleTurn_48 : decode cX7_toggleTurn 48 = .ok (.ireturn, 1) := by decide +kernel
theorem dX7_nodes_0 : decode cX7_nodes 0 = .ok (.aload_n 0, 1) := by decide +kernel
theorem dX7_nodes_1 : decode cX7_nodes 1 = .ok (.getfield 10, 3) := by decide +kernel
theorem dX7_nodes_4 : decode cX7_nodes 4 = .ok (.invokevirtual 123, 3) := by decide +kernel
theorem dX7_nodes_7 : decode cX7_nodes 7 = .ok (.ireturn, 1) := by decide +kernel
theorem dX7_edges_0 : decode cX7_edges 0 = .ok (.aload_n 0, 1) := by decide +kernel
theorem dX7_edges_1 : decode cX7_edges 1 = .ok (.getfield 10, 3) := by decide +kernel
theorem dX7_edges_4 : decode cX7_edges 4 = .ok (.invokevirtual 127, 3) := by decide +kernel
theorem dX7_edges_7 : decode cX7_edges 7 = .ok (.ireturn, 1) := by decide +kernel
theorem dX7_usableEdges_0 : decode cX7_usableEdges 0 = .ok (.aload_n 0, 1) := by decide +kernel
theorem dX7_usableEdges_1 : decode cX7_usableEdges 1 = .ok (.getfield 10, 3) := by decide +kernel
theorem dX7_usableEdges_4 : decode cX7_usableEdges 4 = .ok (.invokevirtual 130, 3) := by decide +kernel
theorem dX7_usableEdges_7 : decode cX7_usableEdges 7 = .ok (.ireturn, 1) := by decide +kernel
theorem dX7_distance_0 : decode cX7_distance 0 = .ok (.aload_n 0, 1) := by decide +kernel
theorem dX7_distance_1 : decode cX7_distance 1 = .ok (.iload_n 1, 1) := by decide +kernel
theorem dX7_distance_2 : decode cX7_distance 2 = .ok (.iload_n 2, 1) := by decide +kernel
theorem dX7_distance_3 : decode cX7_distance 3 = .ok (.invokevirtual 101, 3) := by decide +kernel
theorem dX7_distance_6 : decode cX7_distance 6 = .ok (.aload_n 0, 1) := by decide +kernel
theorem dX7_distance_7 : decode cX7_distance 7 = .ok (.getfield 21, 3) := by decide +kernel
theorem dX7_distance_10 : decode cX7_distance 10 = .ok (.iload_n 2, 1) := by decide +kernel
theorem dX7_distance_11 : decode cX7_distance 11 = .ok (.invokevirtual 133, 3) := by decide +kernel
theorem dX7_distance_14 : decode cX7_distance 14 = .ok (.aload_n 0, 1) := by decide +kernel
theorem dX7_distance_15 : decode cX7_distance 15 = .ok (.getfield 21, 3) := by decide +kernel
theorem dX7_distance_18 : decode cX7_distance 18 = .ok (.iload_n 1, 1) := by decide +kernel
theorem dX7_distance_19 : decode cX7_distance 19 = .ok (.invokevirtual 136, 3) := by decide +kernel
theorem dX7_distance_22 : decode cX7_distance 22 = .ok (.invokestatic 139, 3) := by decide +kernel
theorem dX7_distance_25 : decode cX7_distance 25 = .ok (.ireturn, 1) := by decide +kernel
theorem dX7_startPaths_0 : decode cX7_startPaths 0 = .ok (.aload_n 0, 1) := by decide +kernel
theorem dX7_startPaths_1 : decode cX7_startPaths 1 = .ok (.iload_n 1, 1) := by decide +kernel
theorem dX7_startPaths_2 : decode cX7_startPaths 2 = .ok (.iload_n 2, 1) := by decide +kernel
theorem dX7_startPaths_3 : decode cX7_startPaths 3 = .ok (.invokevirtual 71, 3) := by decide +kernel
theorem dX7_startPaths_6 : decode cX7_startPaths 6 = .ok (.aload_n 0, 1) := by decide +kernel
theorem dX7_startPaths_7 : decode cX7_startPaths 7 = .ok (.getfield 28, 3) := by decide +kernel
theorem dX7_startPaths_10 : decode cX7_startPaths 10 = .ok (.iload_n 1, 1) := by decide +kernel
theorem dX7_startPaths_11 : decode cX7_startPaths 11 = .ok (.iload_n 2, 1) := by decide +kernel
theorem dX7_startPaths_12 : decode cX7_startPaths 12 = .ok (.invokevirtual 142, 3) := by decide +kernel
theorem dX7_startPaths_15 : decode cX7_startPaths 15 = .ok (.aload_n 0, 1) := by decide +kernel
theorem dX7_startPaths_16 : decode cX7_startPaths 16 = .ok (.iconst 1, 1) := by decide +kernel
theorem dX7_startPaths_17 : decode cX7_startPaths 17 = .ok (.putfield 145, 3) := by decide +kernel
theorem dX7_startPaths_20 : decode cX7_startPaths 20 = .ok (.return_, 1) := by decide +kernel
theorem dX7_nextPath_0 : decode cX7_nextPath 0 = .ok (.aload_n 0, 1) := by decide +kernel
theorem dX7_nextPath_1 : decode cX7_nextPath 1 = .ok (.getfield 145, 3) := by decide +kernel
theorem dX7_nextPath_4 : decode cX7_nextPath 4 = .ok (.invokestatic 149, 3) := by decide +kernel
theorem dX7_nextPath_7 : decode cX7_nextPath 7 = .ok (.aload_n 0, 1) := by decide +kernel
theorem dX7_nextPath_8 : decode cX7_nextPath 8 = .ok (.getfield 28, 3) := by decide +kernel
theorem dX7_nextPath_11 : decode cX7_nextPath 11 = .ok (.invokevirtual 153, 3) := by decide +kernel
theorem dX7_nextPath_14 : decode cX7_nextPath 14 = .ok (.ifCond .ne 13, 3) := by decide +kernel
theorem dX7_nextPath_17 : decode cX7_nextPath 17 = .ok (.new 156, 3) := by decide +kernel
theorem dX7_nextPath_20 : decode cX7_nextPath 20 = .ok (.dup, 1) := by decide +kernel
theorem dX7_nextPath_21 : decode cX7_nextPath 21 = .ok (.ldc 158, 2) := by decide +kernel
theorem dX7_nextPath_23 : decode cX7_nextPath 23 = .ok (.invokespecial 160, 3) := by decide +kernel
theorem dX7_nextPath_26 : decode cX7_nextPath 26 = .ok (.athrow, 1) := by decide +kernel
theorem dX7_nextPath_27 : decode cX7_nextPath 27 = .ok (.aload_n 0, 1) := by decide +kernel
theorem dX7_nextPath_28 : decode cX7_nextPath 28 = .ok (.getfield 28, 3) := by decide +kernel
theorem dX7_nextPath_31 : decode cX7_nextPath 31 = .ok (.invokevirtual 161, 3) := by decide +kernel
theorem dX7_nextPath_34 : decode cX7_nextPath 34 = .ok (.ireturn, 1) := by decide +kernel
theorem dX7_pathsDrawn_0 : decode cX7_pathsDrawn 0 = .ok (.aload_n 0, 1) := by decide +kernel
theorem dX7_pathsDrawn_1 : decode cX7_pathsDrawn 1 = .ok (.getfield 145, 3) := by decide +kernel
theorem dX7_pathsDrawn_4 : decode cX7_pathsDrawn 4 = .ok (.invokestatic 149, 3) := by decide +kernel
theorem dX7_pathsDrawn_7 : decode cX7_pathsDrawn 7 = .ok (.aload_n 0, 1) := by decide +kernel
theorem dX7_pathsDrawn_8 : decode cX7_pathsDrawn 8 = .ok (.getfield 28, 3) := by decide +kernel
theorem dX7_pathsDrawn_11 : decode cX7_pathsDrawn 11 = .ok (.invokevirtual 164, 3) := by decide +kernel
theorem dX7_pathsDrawn_14 : decode cX7_pathsDrawn 14 = .ok (.ireturn, 1) := by decide +kernel
theorem dX7_pathEdges_0 : decode cX7_pathEdges 0 = .ok (.aload_n 0, 1) := by decide +kernel
theorem dX7_pathEdges_1 : decode cX7_pathEdges 1 = .ok (.getfield 145, 3) := by decide +kernel
theorem dX7_pathEdges_4 : decode cX7_pathEdges 4 = .ok (.invokestatic 149, 3) := by decide +kernel
theorem dX7_pathEdges_7 : decode cX7_pathEdges 7 = .ok (.aload_n 0, 1) := by decide +kernel
theorem dX7_pathEdges_8 : decode cX7_pathEdges 8 = .ok (.getfield 28, 3) := by decide +kernel
theorem dX7_pathEdges_11 : decode cX7_pathEdges 11 = .ok (.invokevirtual 164, 3) := by decide +kernel
theorem dX7_pathEdges_14 : decode cX7_pathEdges 14 = .ok (.invokestatic 167, 3) := by decide +kernel
theorem dX7_pathEdges_17 : decode cX7_pathEdges 17 = .ok (.aload_n 0, 1) := by decide +kernel
theorem dX7_pathEdges_18 : decode cX7_pathEdges 18 = .ok (.getfield 28, 3) := by decide +kernel
theorem dX7_pathEdges_21 : decode cX7_pathEdges 21 = .ok (.invokevirtual 170, 3) := by decide +kernel
theorem dX7_pathEdges_24 : decode cX7_pathEdges 24 = .ok (.ireturn, 1) := by decide +kernel
theorem dX7_pathEdge_0 : decode cX7_pathEdge 0 = .ok (.aload_n 0, 1) := by decide +kernel
theorem dX7_pathEdge_1 : decode cX7_pathEdge 1 = .ok (.getfield 145, 3) := by decide +kernel
theorem dX7_pathEdge_4 : decode cX7_pathEdge 4 = .ok (.invokestatic 149, 3) := by decide +kernel
theorem dX7_pathEdge_7 : decode cX7_pathEdge 7 = .ok (.aload_n 0, 1) := by decide +kernel
theorem dX7_pathEdge_8 : decode cX7_pathEdge 8 = .ok (.getfield 28, 3) := by decide +kernel
theorem dX7_pathEdge_11 : decode cX7_pathEdge 11 = .ok (.invokevirtual 164, 3) := by decide +kernel
theorem dX7_pathEdge_14 : decode cX7_pathEdge 14 = .ok (.invokestatic 167, 3) := by decide +kernel
theorem dX7_pathEdge_17 : decode cX7_pathEdge 17 = .ok (.aload_n 0, 1) := by decide +kernel
theorem dX7_pathEdge_18 : decode cX7_pathEdge 18 = .ok (.getfield 28, 3) := by decide +kernel
theorem dX7_pathEdge_21 : decode cX7_pathEdge 21 = .ok (.iload_n 1, 1) := by decide +kernel
theorem dX7_pathEdge_22 : decode cX7_pathEdge 22 = .ok (.invokevirtual 173, 3) := by decide +kernel
theorem dX7_pathEdge_25 : decode cX7_pathEdge 25 = .ok (.invokestatic 176, 3) := by decide +kernel
theorem dX7_pathEdge_28 : decode cX7_pathEdge 28 = .ok (.ireturn, 1) := by decide +kernel
theorem dX7_countPaths_0 : decode cX7_countPaths 0 = .ok (.aload_n 0, 1) := by decide +kernel
theorem dX7_countPaths_1 : decode cX7_countPaths 1 = .ok (.iload_n 1, 1) := by decide +kernel
theorem dX7_countPaths_2 : decode cX7_countPaths 2 = .ok (.iload_n 2, 1) := by decide +kernel
theorem dX7_countPaths_3 : decode cX7_countPaths 3 = .ok (.invokevirtual 71, 3) := by decide +kernel
theorem dX7_countPaths_6 : decode cX7_countPaths 6 = .ok (.iload_n 3, 1) := by decide +kernel
theorem dX7_countPaths_7 : decode cX7_countPaths 7 = .ok (.iconst 0, 1) := by decide +kernel
theorem dX7_countPaths_8 : decode cX7_countPaths 8 = .ok (.ldc 179, 2) := by decide +kernel
theorem dX7_countPaths_10 : decode cX7_countPaths 10 = .ok (.invokestatic 60, 3) := by decide +kernel
theorem dX7_countPaths_13 : decode cX7_countPaths 13 = .ok (.aload_n 0, 1) := by decide +kernel
theorem dX7_countPaths_14 : decode cX7_countPaths 14 = .ok (.getfield 35, 3) := by decide +kernel
theorem dX7_countPaths_17 : decode cX7_countPaths 17 = .ok (.iload_n 1, 1) := by decide +kernel
theorem dX7_countPaths_18 : decode cX7_countPaths 18 = .ok (.iload_n 2, 1) := by decide +kernel
theorem dX7_countPaths_19 : decode cX7_countPaths 19 = .ok (.iload_n 3, 1) := by decide +kernel
theorem dX7_countPaths_20 : decode cX7_countPaths 20 = .ok (.invokevirtual 180, 3) := by decide +kernel
theorem dX7_countPaths_23 : decode cX7_countPaths 23 = .ok (.ireturn, 1) := by decide +kernel
theorem dX7_startWalks_0 : decode cX7_startWalks 0 = .ok (.aload_n 0, 1) := by decide +kernel
theorem dX7_startWalks_1 : decode cX7_startWalks 1 = .ok (.iload_n 1, 1) := by decide +kernel
theorem dX7_startWalks_2 : decode cX7_startWalks 2 = .ok (.iload_n 2, 1) := by decide +kernel
theorem dX7_startWalks_3 : decode cX7_startWalks 3 = .ok (.invokevirtual 101, 3) := by decide +kernel
theorem dX7_startWalks_6 : decode cX7_startWalks 6 = .ok (.aload_n 0, 1) := by decide +kernel
theorem dX7_startWalks_7 : decode cX7_startWalks 7 = .ok (.getfield 42, 3) := by decide +kernel
theorem dX7_startWalks_10 : decode cX7_startWalks 10 = .ok (.iload_n 1, 1) := by decide +kernel
theorem dX7_startWalks_11 : decode cX7_startWalks 11 = .ok (.iload_n 2, 1) := by decide +kernel
theorem dX7_startWalks_12 : decode cX7_startWalks 12 = .ok (.invokevirtual 183, 3) := by decide +kernel
theorem dX7_startWalks_15 : decode cX7_startWalks 15 = .ok (.aload_n 0, 1) := by decide +kernel
theorem dX7_startWalks_16 : decode cX7_startWalks 16 = .ok (.iconst 1, 1) := by decide +kernel
theorem dX7_startWalks_17 : decode cX7_startWalks 17 = .ok (.putfield 184, 3) := by decide +kernel
theorem dX7_startWalks_20 : decode cX7_startWalks 20 = .ok (.return_, 1) := by decide +kernel
theorem dX7_nextWalk_0 : decode cX7_nextWalk 0 = .ok (.aload_n 0, 1) := by decide +kernel
theorem dX7_nextWalk_1 : decode cX7_nextWalk 1 = .ok (.getfield 184, 3) := by decide +kernel
theorem dX7_nextWalk_4 : decode cX7_nextWalk 4 = .ok (.invokestatic 149, 3) := by decide +kernel
theorem dX7_nextWalk_7 : decode cX7_nextWalk 7 = .ok (.aload_n 0, 1) := by decide +kernel
theorem dX7_nextWalk_8 : decode cX7_nextWalk 8 = .ok (.getfield 42, 3) := by decide +kernel
theorem dX7_nextWalk_11 : decode cX7_nextWalk 11 = .ok (.invokevirtual 187, 3) := by decide +kernel
theorem dX7_nextWalk_14 : decode cX7_nextWalk 14 = .ok (.bipush 50, 2) := by decide +kernel
theorem dX7_nextWalk_16 : decode cX7_nextWalk 16 = .ok (.if_icmp .lt 13, 3) := by decide +kernel
theorem dX7_nextWalk_19 : decode cX7_nextWalk 19 = .ok (.new 79, 3) := by decide +kernel
theorem dX7_nextWalk_22 : decode cX7_nextWalk 22 = .ok (.dup, 1) := by decide +kernel
theorem dX7_nextWalk_23 : decode cX7_nextWalk 23 = .ok (.ldc 188, 2) := by decide +kernel
theorem dX7_nextWalk_25 : decode cX7_nextWalk 25 = .ok (.invokespecial 83, 3) := by decide +kernel
theorem dX7_nextWalk_28 : decode cX7_nextWalk 28 = .ok (.athrow, 1) := by decide +kernel
theorem dX7_nextWalk_29 : decode cX7_nextWalk 29 = .ok (.aload_n 0, 1) := by decide +kernel
theorem dX7_nextWalk_30 : decode cX7_nextWalk 30 = .ok (.getfield 42, 3) := by decide +kernel
theorem dX7_nextWalk_33 : decode cX7_nextWalk 33 = .ok (.invokevirtual 190, 3) := by decide +kernel
theorem dX7_nextWalk_36 : decode cX7_nextWalk 36 = .ok (.ifCond .ne 13, 3) := by decide +kernel
theorem dX7_nextWalk_39 : decode cX7_nextWalk 39 = .ok (.new 156, 3) := by decide +kernel
theorem dX7_nextWalk_42 : decode cX7_nextWalk 42 = .ok (.dup, 1) := by decide +kernel
theorem dX7_nextWalk_43 : decode cX7_nextWalk 43 = .ok (.ldc 191, 2) := by decide +kernel
theorem dX7_nextWalk_45 : decode cX7_nextWalk 45 = .ok (.invokespecial 160, 3) := by decide +kernel
theorem dX7_nextWalk_48 : decode cX7_nextWalk 48 = .ok (.athrow, 1) := by decide +kernel
theorem dX7_nextWalk_49 : decode cX7_nextWalk 49 = .ok (.aload_n 0, 1) := by decide +kernel
theorem dX7_nextWalk_50 : decode cX7_nextWalk 50 = .ok (.getfield 42, 3) := by decide +kernel
theorem dX7_nextWalk_53 : decode cX7_nextWalk 53 = .ok (.invokevirtual 193, 3) := by decide +kernel
theorem dX7_nextWalk_56 : decode cX7_nextWalk 56 = .ok (.ireturn, 1) := by decide +kernel
theorem dX7_walksDrawn_0 : decode cX7_walksDrawn 0 = .ok (.aload_n 0, 1) := by decide +kernel
theorem dX7_walksDrawn_1 : decode cX7_walksDrawn 1 = .ok (.getfield 184, 3) := by decide +kernel
theorem dX7_walksDrawn_4 : decode cX7_walksDrawn 4 = .ok (.invokestatic 149, 3) := by decide +kernel
theorem dX7_walksDrawn_7 : decode cX7_walksDrawn 7 = .ok (.aload_n 0, 1) := by decide +kernel
theorem dX7_walksDrawn_8 : decode cX7_walksDrawn 8 = .ok (.getfield 42, 3) := by decide +kernel
theorem dX7_walksDrawn_11 : decode cX7_walksDrawn 11 = .ok (.invokevirtual 187, 3) := by decide +kernel
theorem dX7_walksDrawn_14 : decode cX7_walksDrawn 14 = .ok (.ireturn, 1) := by decide +kernel
theorem dX7_walkEdges_0 : decode cX7_walkEdges 0 = .ok (.aload_n 0, 1) := by decide +kernel
theorem dX7_walkEdges_1 : decode cX7_walkEdges 1 = .ok (.getfield 184, 3) := by decide +kernel
theorem dX7_walkEdges_4 : decode cX7_walkEdges 4 = .ok (.invokestatic 149, 3) := by decide +kernel
theorem dX7_walkEdges_7 : decode cX7_walkEdges 7 = .ok (.aload_n 0, 1) := by decide +kernel
theorem dX7_walkEdges_8 : decode cX7_walkEdges 8 = .ok (.getfield 42, 3) := by decide +kernel
theorem dX7_walkEdges_11 : decode cX7_walkEdges 11 = .ok (.invokevirtual 187, 3) := by decide +kernel
theorem dX7_walkEdges_14 : decode cX7_walkEdges 14 = .ok (.invokestatic 167, 3) := by decide +kernel
theorem dX7_walkEdges_17 : decode cX7_walkEdges 17 = .ok (.aload_n 0, 1) := by decide +kernel
theorem dX7_walkEdges_18 : decode cX7_walkEdges 18 = .ok (.getfield 42, 3) := by decide +kernel
theorem dX7_walkEdges_21 : decode cX7_walkEdges 21 = .ok (.invokevirtual 194, 3) := by decide +kernel
theorem dX7_walkEdges_24 : decode cX7_walkEdges 24 = .ok (.ireturn, 1) := by decide +kernel
theorem dX7_walkEdge_0 : decode cX7_walkEdge 0 = .ok (.aload_n 0, 1) := by decide +kernel
theorem dX7_walkEdge_1 : decode cX7_walkEdge 1 = .ok (.getfield 184, 3) := by decide +kernel
theorem dX7_walkEdge_4 : decode cX7_walkEdge 4 = .ok (.invokestatic 149, 3) := by decide +kernel
theorem dX7_walkEdge_7 : decode cX7_walkEdge 7 = .ok (.aload_n 0, 1) := by decide +kernel
theorem dX7_walkEdge_8 : decode cX7_walkEdge 8 = .ok (.getfield 42, 3) := by decide +kernel
theorem dX7_walkEdge_11 : decode cX7_walkEdge 11 = .ok (.invokevirtual 187, 3) := by decide +kernel
theorem dX7_walkEdge_14 : decode cX7_walkEdge 14 = .ok (.invokestatic 167, 3) := by decide +kernel
theorem dX7_walkEdge_17 : decode cX7_walkEdge 17 = .ok (.aload_n 0, 1) := by decide +kernel
theorem dX7_walkEdge_18 : decode cX7_walkEdge 18 = .ok (.getfield 42, 3) := by decide +kernel
theorem dX7_walkEdge_21 : decode cX7_walkEdge 21 = .ok (.iload_n 1, 1) := by decide +kernel
theorem dX7_walkEdge_22 : decode cX7_walkEdge 22 = .ok (.invokevirtual 195, 3) := by decide +kernel
theorem dX7_walkEdge_25 : decode cX7_walkEdge 25 = .ok (.invokestatic 176, 3) := by decide +kernel
theorem dX7_walkEdge_28 : decode cX7_walkEdge 28 = .ok (.ireturn, 1) := by decide +kernel
theorem dX7_disjointPaths_0 : decode cX7_disjointPaths 0 = .ok (.aload_n 0, 1) := by decide +kernel
theorem dX7_disjointPaths_1 : decode cX7_disjointPaths 1 = .ok (.iload_n 1, 1) := by decide +kernel
theorem dX7_disjointPaths_2 : decode cX7_disjointPaths 2 = .ok (.iload_n 2, 1) := by decide +kernel
theorem dX7_disjointPaths_3 : decode cX7_disjointPaths 3 = .ok (.invokevirtual 71, 3) := by decide +kernel
theorem dX7_disjointPaths_6 : decode cX7_disjointPaths 6 = .ok (.aload_n 0, 1) := by decide +kernel
theorem dX7_disjointPaths_7 : decode cX7_disjointPaths 7 = .ok (.getfield 49, 3) := by decide +kernel
theorem dX7_disjointPaths_10 : decode cX7_disjointPaths 10 = .ok (.iload_n 1, 1) := by decide +kernel
theorem dX7_disjointPaths_11 : decode cX7_disjointPaths 11 = .ok (.iload_n 2, 1) := by decide +kernel
theorem dX7_disjointPaths_12 : decode cX7_disjointPaths 12 = .ok (.iload_n 3, 1) := by decide +kernel
theorem dX7_disjointPaths_13 : decode cX7_disjointPaths 13 = .ok (.invokevirtual 196, 3) := by decide +kernel
theorem dX7_disjointPaths_16 : decode cX7_disjointPaths 16 = .ok (.ireturn, 1) := by decide +kernel
theorem dX7_disjointLength_0 : decode cX7_disjointLength 0 = .ok (.aload_n 0, 1) := by decide +kernel
theorem dX7_disjointLength_1 : decode cX7_disjointLength 1 = .ok (.iload_n 1, 1) := by decide +kernel
theorem dX7_disjointLength_2 : decode cX7_disjointLength 2 = .ok (.iload_n 2, 1) := by decide +kernel
theorem dX7_disjointLength_3 : decode cX7_disjointLength 3 = .ok (.invokevirtual 71, 3) := by decide +kernel
theorem dX7_disjointLength_6 : decode cX7_disjointLength 6 = .ok (.iload_n 3, 1) := by decide +kernel
theorem dX7_disjointLength_7 : decode cX7_disjointLength 7 = .ok (.iconst 1, 1) := by decide +kernel
theorem dX7_disjointLength_8 : decode cX7_disjointLength 8 = .ok (.iconst 4, 1) := by decide +kernel
theorem dX7_disjointLength_9 : decode cX7_disjointLength 9 = .ok (.invokestatic 60, 3) := by decide +kernel
theorem dX7_disjointLength_12 : decode cX7_disjointLength 12 = .ok (.aload_n 0, 1) := by decide +kernel
theorem dX7_disjointLength_13 : decode cX7_disjointLength 13 = .ok (.getfield 49, 3) := by decide +kernel
theorem dX7_disjointLength_16 : decode cX7_disjointLength 16 = .ok (.iload_n 1, 1) := by decide +kernel
theorem dX7_disjointLength_17 : decode cX7_disjointLength 17 = .ok (.iload_n 2, 1) := by decide +kernel
theorem dX7_disjointLength_18 : decode cX7_disjointLength 18 = .ok (.iload_n 3, 1) := by decide +kernel
theorem dX7_disjointLength_19 : decode cX7_disjointLength 19 = .ok (.iload 4, 2) := by decide +kernel
theorem dX7_disjointLength_21 : decode cX7_disjointLength 21 = .ok (.invokevirtual 200, 3) := by decide +kernel
theorem dX7_disjointLength_24 : decode cX7_disjointLength 24 = .ok (.invokestatic 139, 3) := by decide +kernel
theorem dX7_disjointLength_27 : decode cX7_disjointLength 27 = .ok (.ireturn, 1) := by decide +kernel
theorem dX7_allowedLength_0 : decode cX7_allowedLength 0 = .ok (.aload_n 0, 1) := by decide +kernel
theorem dX7_allowedLength_1 : decode cX7_allowedLength 1 = .ok (.iload_n 1, 1) := by decide +kernel
theorem dX7_allowedLength_2 : decode cX7_allowedLength 2 = .ok (.iload_n 2, 1) := by decide +kernel
theorem dX7_allowedLength_3 : decode cX7_allowedLength 3 = .ok (.invokevirtual 101, 3) := by decide +kernel
theorem dX7_allowedLength_6 : decode cX7_allowedLength 6 = .ok (.aload_n 0, 1) := by decide +kernel
theorem dX7_allowedLength_7 : decode cX7_allowedLength 7 = .ok (.getfield 56, 3) := by decide +kernel
theorem dX7_allowedLength_10 : decode cX7_allowedLength 10 = .ok (.iload_n 1, 1) := by decide +kernel
theorem dX7_allowedLength_11 : decode cX7_allowedLength 11 = .ok (.iload_n 2, 1) := by decide +kernel
theorem dX7_allowedLength_12 : decode cX7_allowedLength 12 = .ok (.invokevirtual 204, 3) := by decide +kernel
theorem dX7_allowedLength_15 : decode cX7_allowedLength 15 = .ok (.invokestatic 139, 3) := by decide +kernel
theorem dX7_allowedLength_18 : decode cX7_allowedLength 18 = .ok (.ireturn, 1) := by decide +kernel
theorem dX7_allowedEdges_0 : decode cX7_allowedEdges 0 = .ok (.aload_n 0, 1) := by decide +kernel
theorem dX7_allowedEdges_1 : decode cX7_allowedEdges 1 = .ok (.iload_n 1, 1) := by decide +kernel
theorem dX7_allowedEdges_2 : decode cX7_allowedEdges 2 = .ok (.iload_n 2, 1) := by decide +kernel
theorem dX7_allowedEdges_3 : decode cX7_allowedEdges 3 = .ok (.invokevirtual 101, 3) := by decide +kernel
theorem dX7_allowedEdges_6 : decode cX7_allowedEdges 6 = .ok (.aload_n 0, 1) := by decide +kernel
theorem dX7_allowedEdges_7 : decode cX7_allowedEdges 7 = .ok (.getfield 56, 3) := by decide +kernel
theorem dX7_allowedEdges_10 : decode cX7_allowedEdges 10 = .ok (.iload_n 1, 1) := by decide +kernel
theorem dX7_allowedEdges_11 : decode cX7_allowedEdges 11 = .ok (.iload_n 2, 1) := by decide +kernel
theorem dX7_allowedEdges_12 : decode cX7_allowedEdges 12 = .ok (.invokevirtual 204, 3) := by decide +kernel
theorem dX7_allowedEdges_15 : decode cX7_allowedEdges 15 = .ok (.invokestatic 139, 3) := by decide +kernel
theorem dX7_allowedEdges_18 : decode cX7_allowedEdges 18 = .ok (.pop, 1) := by decide +kernel
theorem dX7_allowedEdges_19 : decode cX7_allowedEdges 19 = .ok (.aload_n 0, 1) := by decide +kernel
theorem dX7_allowedEdges_20 : decode cX7_allowedEdges 20 = .ok (.getfield 56, 3) := by decide +kernel
theorem dX7_allowedEdges_23 : decode cX7_allowedEdges 23 = .ok (.invokevirtual 207, 3) := by decide +kernel
theorem dX7_allowedEdges_26 : decode cX7_allowedEdges 26 = .ok (.ireturn, 1) := by decide +kernel
theorem dX7_allowedEdge_0 : decode cX7_allowedEdge 0 = .ok (.aload_n 0, 1) := by decide +kernel
theorem dX7_allowedEdge_1 : decode cX7_allowedEdge 1 = .ok (.iload_n 1, 1) := by decide +kernel
theorem dX7_allowedEdge_2 : decode cX7_allowedEdge 2 = .ok (.iload_n 2, 1) := by decide +kernel
theorem dX7_allowedEdge_3 : decode cX7_allowedEdge 3 = .ok (.invokevirtual 101, 3) := by decide +kernel
theorem dX7_allowedEdge_6 : decode cX7_allowedEdge 6 = .ok (.aload_n 0, 1) := by decide +kernel
theorem dX7_allowedEdge_7 : decode cX7_allowedEdge 7 = .ok (.getfield 56, 3) := by decide +kernel
theorem dX7_allowedEdge_10 : decode cX7_allowedEdge 10 = .ok (.iload_n 1, 1) := by decide +kernel
theorem dX7_allowedEdge_11 : decode cX7_allowedEdge 11 = .ok (.iload_n 2, 1) := by decide +kernel
theorem dX7_allowedEdge_12 : decode cX7_allowedEdge 12 = .ok (.invokevirtual 204, 3) := by decide +kernel
theorem dX7_allowedEdge_15 : decode cX7_allowedEdge 15 = .ok (.invokestatic 139, 3) := by decide +kernel
theorem dX7_allowedEdge_18 : decode cX7_allowedEdge 18 = .ok (.pop, 1) := by decide +kernel
theorem dX7_allowedEdge_19 : decode cX7_allowedEdge 19 = .ok (.aload_n 0, 1) := by decide +kernel
theorem dX7_allowedEdge_20 : decode cX7_allowedEdge 20 = .ok (.getfield 56, 3) := by decide +kernel
theorem dX7_allowedEdge_23 : decode cX7_allowedEdge 23 = .ok (.iload_n 3, 1) := by decide +kernel
theorem dX7_allowedEdge_24 : decode cX7_allowedEdge 24 = .ok (.invokevirtual 210, 3) := by decide +kernel
theorem dX7_allowedEdge_27 : decode cX7_allowedEdge 27 = .ok (.invokestatic 176, 3) := by decide +kernel
theorem dX7_allowedEdge_30 : decode cX7_allowedEdge 30 = .ok (.ireturn, 1) := by decide +kernel
theorem dX7_endDraws_0 : decode cX7_endDraws 0 = .ok (.aload_n 0, 1) := by decide +kernel
theorem dX7_endDraws_1 : decode cX7_endDraws 1 = .ok (.iconst 0, 1) := by decide +kernel
theorem dX7_endDraws_2 : decode cX7_endDraws 2 = .ok (.putfield 145, 3) := by decide +kernel
theorem dX7_endDraws_5 : decode cX7_endDraws 5 = .ok (.aload_n 0, 1) := by decide +kernel
theorem dX7_endDraws_6 : decode cX7_endDraws 6 = .ok (.iconst 0, 1) := by decide +kernel
theorem dX7_endDraws_7 : decode cX7_endDraws 7 = .ok (.putfield 184, 3) := by decide +kernel
theorem dX7_endDraws_10 : decode cX7_endDraws 10 = .ok (.return_, 1) := by decide +kernel
theorem dX7_requireNodes_0 : decode cX7_requireNodes 0 = .ok (.aload_n 0, 1) := by decide +kernel
theorem dX7_requireNodes_1 : decode cX7_requireNodes 1 = .ok (.getfield 10, 3) := by decide +kernel
theorem dX7_requireNodes_4 : decode cX7_requireNodes 4 = .ok (.iload_n 1, 1) := by decide +kernel
theorem dX7_requireNodes_5 : decode cX7_requireNodes 5 = .ok (.invokevirtual 213, 3) := by decide +kernel
theorem dX7_requireNodes_8 : decode cX7_requireNodes 8 = .ok (.ifCond .eq 14, 3) := by decide +kernel
theorem dX7_requireNodes_11 : decode cX7_requireNodes 11 = .ok (.aload_n 0, 1) := by decide +kernel
theorem dX7_requireNodes_12 : decode cX7_requireNodes 12 = .ok (.getfield 10, 3) := by decide +kernel
theorem dX7_requireNodes_15 : decode cX7_requireNodes 15 = .ok (.iload_n 2, 1) := by decide +kernel
theorem dX7_requireNodes_16 : decode cX7_requireNodes 16 = .ok (.invokevirtual 213, 3) := by decide +kernel
theorem dX7_requireNodes_19 : decode cX7_requireNodes 19 = .ok (.ifCond .ne 13, 3) := by decide +kernel
theorem dX7_requireNodes_22 : decode cX7_requireNodes 22 = .ok (.new 114, 3) := by decide +kernel
theorem dX7_requireNodes_25 : decode cX7_requireNodes 25 = .ok (.dup, 1) := by decide +kernel
theorem dX7_requireNodes_26 : decode cX7_requireNodes 26 = .ok (.ldc 216, 2) := by decide +kernel
theorem dX7_requireNodes_28 : decode cX7_requireNodes 28 = .ok (.invokespecial 118, 3) := by decide +kernel
theorem dX7_requireNodes_31 : decode cX7_requireNodes 31 = .ok (.athrow, 1) := by decide +kernel
theorem dX7_requireNodes_32 : decode cX7_requireNodes 32 = .ok (.return_, 1) := by decide +kernel
theorem dX7_requireTwoNodes_0 : decode cX7_requireTwoNodes 0 = .ok (.aload_n 0, 1) := by decide +kernel
theorem dX7_requireTwoNodes_1 : decode cX7_requireTwoNodes 1 = .ok (.iload_n 1, 1) := by decide +kernel
theorem dX7_requireTwoNodes_2 : decode cX7_requireTwoNodes 2 = .ok (.iload_n 2, 1) := by decide +kernel
theorem dX7_requireTwoNodes_3 : decode cX7_requireTwoNodes 3 = .ok (.invokevirtual 101, 3) := by decide +kernel
theorem dX7_requireTwoNodes_6 : decode cX7_requireTwoNodes 6 = .ok (.iload_n 1, 1) := by decide +kernel
theorem dX7_requireTwoNodes_7 : decode cX7_requireTwoNodes 7 = .ok (.iload_n 2, 1) := by decide +kernel
theorem dX7_requireTwoNodes_8 : decode cX7_requireTwoNodes 8 = .ok (.if_icmp .ne 13, 3) := by decide +kernel
theorem dX7_requireTwoNodes_11 : decode cX7_requireTwoNodes 11 = .ok (.new 114, 3) := by decide +kernel
theorem dX7_requireTwoNodes_14 : decode cX7_requireTwoNodes 14 = .ok (.dup, 1) := by decide +kernel
theorem dX7_requireTwoNodes_15 : decode cX7_requireTwoNodes 15 = .ok (.ldc 218, 2) := by decide +kernel
theorem dX7_requireTwoNodes_17 : decode cX7_requireTwoNodes 17 = .ok (.invokespecial 118, 3) := by decide +kernel
theorem dX7_requireTwoNodes_20 : decode cX7_requireTwoNodes 20 = .ok (.athrow, 1) := by decide +kernel
theorem dX7_requireTwoNodes_21 : decode cX7_requireTwoNodes 21 = .ok (.return_, 1) := by decide +kernel
theorem dX7_requireEdge_0 : decode cX7_requireEdge 0 = .ok (.aload_n 0, 1) := by decide +kernel
theorem dX7_requireEdge_1 : decode cX7_requireEdge 1 = .ok (.getfield 10, 3) := by decide +kernel
theorem dX7_requireEdge_4 : decode cX7_requireEdge 4 = .ok (.iload_n 1, 1) := by decide +kernel
theorem dX7_requireEdge_5 : decode cX7_requireEdge 5 = .ok (.invokevirtual 220, 3) := by decide +kernel
theorem dX7_requireEdge_8 : decode cX7_requireEdge 8 = .ok (.ifCond .ne 13, 3) := by decide +kernel
theorem dX7_requireEdge_11 : decode cX7_requireEdge 11 = .ok (.new 114, 3) := by decide +kernel
theorem dX7_requireEdge_14 : decode cX7_requireEdge 14 = .ok (.dup, 1) := by decide +kernel
theorem dX7_requireEdge_15 : decode cX7_requireEdge 15 = .ok (.ldc 223, 2) := by decide +kernel
theorem dX7_requireEdge_17 : decode cX7_requireEdge 17 = .ok (.invokespecial 118, 3) := by decide +kernel
theorem dX7_requireEdge_20 : decode cX7_requireEdge 20 = .ok (.athrow, 1) := by decide +kernel
theorem dX7_requireEdge_21 : decode cX7_requireEdge 21 = .ok (.return_, 1) := by decide +kernel
theorem dX7_requireRange_0 : decode cX7_requireRange 0 = .ok (.iload_n 0, 1) := by decide +kernel
theorem dX7_requireRange_1 : decode cX7_requireRange 1 = .ok (.iload_n 1, 1) := by decide +kernel
theorem dX7_requireRange_2 : decode cX7_requireRange 2 = .ok (.if_icmp .lt 8, 3) := by decide +kernel
theorem dX7_requireRange_5 : decode cX7_requireRange 5 = .ok (.iload_n 0, 1) := by decide +kernel
theorem dX7_requireRange_6 : decode cX7_requireRange 6 = .ok (.iload_n 2, 1) := by decide +kernel
theorem dX7_requireRange_7 : decode cX7_requireRange 7 = .ok (.if_icmp .le 13, 3) := by decide +kernel
theorem dX7_requireRange_10 : decode cX7_requireRange 10 = .ok (.new 114, 3) := by decide +kernel
theorem dX7_requireRange_13 : decode cX7_requireRange 13 = .ok (.dup, 1) := by decide +kernel
theorem dX7_requireRange_14 : decode cX7_requireRange 14 = .ok (.ldc 225, 2) := by decide +kernel
theorem dX7_requireRange_16 : decode cX7_requireRange 16 = .ok (.invokespecial 118, 3) := by decide +kernel
theorem dX7_requireRange_19 : decode cX7_requireRange 19 = .ok (.athrow, 1) := by decide +kernel
theorem dX7_requireRange_20 : decode cX7_requireRange 20 = .ok (.return_, 1) := by decide +kernel
theorem dX7_requireStarted_0 : decode cX7_requireStarted 0 = .ok (.iload_n 0, 1) := by decide +kernel
theorem dX7_requireStarted_1 : decode cX7_requireStarted 1 = .ok (.ifCond .ne 13, 3) := by decide +kernel
theorem dX7_requireStarted_4 : decode cX7_requireStarted 4 = .ok (.new 79, 3) := by decide +kernel
theorem dX7_requireStarted_7 : decode cX7_requireStarted 7 = .ok (.dup, 1) := by decide +kernel
theorem dX7_requireStarted_8 : decode cX7_requireStarted 8 = .ok (.ldc 227, 2) := by decide +kernel
theorem dX7_requireStarted_10 : decode cX7_requireStarted 10 = .ok (.invokespecial 83, 3) := by decide +kernel
theorem dX7_requireStarted_13 : decode cX7_requireStarted 13 = .ok (.athrow, 1) := by decide +kernel
theorem dX7_requireStarted_14 : decode cX7_requireStarted 14 = .ok (.return_, 1) := by decide +kernel
theorem dX7_requireDrawn_0 : decode cX7_requireDrawn 0 = .ok (.iload_n 0, 1) := by decide +kernel
theorem dX7_requireDrawn_1 : decode cX7_requireDrawn 1 = .ok (.ifCond .ne 13, 3) := by decide +kernel
theorem dX7_requireDrawn_4 : decode cX7_requireDrawn 4 = .ok (.new 156, 3) := by decide +kernel
theorem dX7_requireDrawn_7 : decode cX7_requireDrawn 7 = .ok (.dup, 1) := by decide +kernel
theorem dX7_requireDrawn_8 : decode cX7_requireDrawn 8 = .ok (.ldc 229, 2) := by decide +kernel
theorem dX7_requireDrawn_10 : decode cX7_requireDrawn 10 = .ok (.invokespecial 160, 3) := by decide +kernel
theorem dX7_requireDrawn_13 : decode cX7_requireDrawn 13 = .ok (.athrow, 1) := by decide +kernel
theorem dX7_requireDrawn_14 : decode cX7_requireDrawn 14 = .ok (.return_, 1) := by decide +kernel
theorem dX7_requireListed_0 : decode cX7_requireListed 0 = .ok (.iload_n 0, 1) := by decide +kernel
theorem dX7_requireListed_1 : decode cX7_requireListed 1 = .ok (.iconst (-1), 1) := by decide +kernel
theorem dX7_requireListed_2 : decode cX7_requireListed 2 = .ok (.if_icmp .ne 13, 3) := by decide +kernel
theorem dX7_requireListed_5 : decode cX7_requireListed 5 = .ok (.new 156, 3) := by decide +kernel
theorem dX7_requireListed_8 : decode cX7_requireListed 8 = .ok (.dup, 1) := by decide +kernel
theorem dX7_requireListed_9 : decode cX7_requireListed 9 = .ok (.ldc 231, 2) := by decide +kernel
theorem dX7_requireListed_11 : decode cX7_requireListed 11 = .ok (.invokespecial 160, 3) := by decide +kernel
theorem dX7_requireListed_14 : decode cX7_requireListed 14 = .ok (.athrow, 1) := by decide +kernel
theorem dX7_requireListed_15 : decode cX7_requireListed 15 = .ok (.iload_n 0, 1) := by decide +kernel
theorem dX7_requireListed_16 : decode cX7_requireListed 16 = .ok (.ireturn, 1) := by decide +kernel
theorem dX7_requireWay_0 : decode cX7_requireWay 0 = .ok (.iload_n 0, 1) := by decide +kernel
theorem dX7_requireWay_1 : decode cX7_requireWay 1 = .ok (.ldc 233, 2) := by decide +kernel
theorem dX7_requireWay_3 : decode cX7_requireWay 3 = .ok (.if_icmp .lt 13, 3) := by decide +kernel
theorem dX7_requireWay_6 : decode cX7_requireWay 6 = .ok (.new 156, 3) := by decide +kernel
theorem dX7_requireWay_9 : decode cX7_requireWay 9 = .ok (.dup, 1) := by decide +kernel
theorem dX7_requireWay_10 : decode cX7_requireWay 10 = .ok (.ldc 234, 2) := by decide +kernel
theorem dX7_requireWay_12 : decode cX7_requireWay 12 = .ok (.invokespecial 160, 3) := by decide +kernel
theorem dX7_requireWay_15 : decode cX7_requireWay 15 = .ok (.athrow, 1) := by decide +kernel
theorem dX7_requireWay_16 : decode cX7_requireWay 16 = .ok (.iload_n 0, 1) := by decide +kernel
theorem dX7_requireWay_17 : decode cX7_requireWay 17 = .ok (.ireturn, 1) := by decide +kernel
theorem dX7_at_0 : decode cX7_at 0 = .ok (.iload_n 1, 1) := by decide +kernel
theorem dX7_at_1 : decode cX7_at 1 = .ok (.ifCond .lt 15, 3) := by decide +kernel
theorem dX7_at_4 : decode cX7_at 4 = .ok (.iload_n 1, 1) := by decide +kernel
theorem dX7_at_5 : decode cX7_at 5 = .ok (.aload_n 0, 1) := by decide +kernel
theorem dX7_at_6 : decode cX7_at 6 = .ok (.arraylength, 1) := by decide +kernel
theorem dX7_at_7 : decode cX7_at 7 = .ok (.if_icmp .ge 9, 3) := by decide +kernel
theorem dX7_at_10 : decode cX7_at 10 = .ok (.aload_n 0, 1) := by decide +kernel
theorem dX7_at_11 : decode cX7_at 11 = .ok (.iload_n 1, 1) := by decide +kernel
theorem dX7_at_12 : decode cX7_at 12 = .ok (.iaload, 1) := by decide +kernel
theorem dX7_at_13 : decode cX7_at 13 = .ok (.goto 4, 3) := by decide +kernel
theorem dX7_at_16 : decode cX7_at 16 = .ok (.iconst 0, 1) := by decide +kernel
theorem dX7_at_17 : decode cX7_at 17 = .ok (.ireturn, 1) := by decide +kernel
theorem dX7_put_0 : decode cX7_put 0 = .ok (.iload_n 1, 1) := by decide +kernel
theorem dX7_put_1 : decode cX7_put 1 = .ok (.ifCond .lt 13, 3) := by decide +kernel
theorem dX7_put_4 : decode cX7_put 4 = .ok (.iload_n 1, 1) := by decide +kernel
theorem dX7_put_5 : decode cX7_put 5 = .ok (.aload_n 0, 1) := by decide +kernel
theorem dX7_put_6 : decode cX7_put 6 = .ok (.arraylength, 1) := by decide +kernel
theorem dX7_put_7 : decode cX7_put 7 = .ok (.if_icmp .ge 7, 3) := by decide +kernel
theorem dX7_put_10 : decode cX7_put 10 = .ok (.aload_n 0, 1) := by decide +kernel
theorem dX7_put_11 : decode cX7_put 11 = .ok (.iload_n 1, 1) := by decide +kernel
theorem dX7_put_12 : decode cX7_put 12 = .ok (.iload_n 2, 1) := by decide +kernel
theorem dX7_put_13 : decode cX7_put 13 = .ok (.iastore, 1) := by decide +kernel
theorem dX7_put_14 : decode cX7_put 14 = .ok (.return_, 1) := by decide +kernel
theorem dX7_at__0 : decode cX7_at_ 0 = .ok (.iload_n 1, 1) := by decide +kernel
theorem dX7_at__1 : decode cX7_at_ 1 = .ok (.ifCond .lt 15, 3) := by decide +kernel
theorem dX7_at__4 : decode cX7_at_ 4 = .ok (.iload_n 1, 1) := by decide +kernel
theorem dX7_at__5 : decode cX7_at_ 5 = .ok (.aload_n 0, 1) := by decide +kernel
theorem dX7_at__6 : decode cX7_at_ 6 = .ok (.arraylength, 1) := by decide +kernel
theorem dX7_at__7 : decode cX7_at_ 7 = .ok (.if_icmp .ge 9, 3) := by decide +kernel
theorem dX7_at__10 : decode cX7_at_ 10 = .ok (.aload_n 0, 1) := by decide +kernel
theorem dX7_at__11 : decode cX7_at_ 11 = .ok (.iload_n 1, 1) := by decide +kernel
theorem dX7_at__12 : decode cX7_at_ 12 = .ok (.laload, 1) := by decide +kernel
theorem dX7_at__13 : decode cX7_at_ 13 = .ok (.goto 4, 3) := by decide +kernel
theorem dX7_at__16 : decode cX7_at_ 16 = .ok (.lconst 0, 1) := by decide +kernel
theorem dX7_at__17 : decode cX7_at_ 17 = .ok (.lreturn, 1) := by decide +kernel
theorem dX7_put__0 : decode cX7_put_ 0 = .ok (.iload_n 1, 1) := by decide +kernel
theorem dX7_put__1 : decode cX7_put_ 1 = .ok (.ifCond .lt 13, 3) := by decide +kernel
theorem dX7_put__4 : decode cX7_put_ 4 = .ok (.iload_n 1, 1) := by decide +kernel
theorem dX7_put__5 : decode cX7_put_ 5 = .ok (.aload_n 0, 1) := by decide +kernel
theorem dX7_put__6 : decode cX7_put_ 6 = .ok (.arraylength, 1) := by decide +kernel
theorem dX7_put__7 : decode cX7_put_ 7 = .ok (.if_icmp .ge 7, 3) := by decide +kernel
theorem dX7_put__10 : decode cX7_put_ 10 = .ok (.aload_n 0, 1) := by decide +kernel
theorem dX7_put__11 : decode cX7_put_ 11 = .ok (.iload_n 1, 1) := by decide +kernel
theorem dX7_put__12 : decode cX7_put_ 12 = .ok (.lload_n 2, 1) := by decide +kernel
theorem dX7_put__13 : decode cX7_put_ 13 = .ok (.lastore, 1) := by decide +kernel
theorem dX7_put__14 : decode cX7_put_ 14 = .ok (.return_, 1) := by decide +kernel
theorem dX7_hasBit_0 : decode cX7_hasBit 0 = .ok (.iload_n 0, 1) := by decide +kernel
theorem dX7_hasBit_1 : decode cX7_hasBit 1 = .ok (.iload_n 1, 1) := by decide +kernel
theorem dX7_hasBit_2 : decode cX7_hasBit 2 = .ok (.iushr, 1) := by decide +kernel
theorem dX7_hasBit_3 : decode cX7_hasBit 3 = .ok (.iconst 1, 1) := by decide +kernel
theorem dX7_hasBit_4 : decode cX7_hasBit 4 = .ok (.iand, 1) := by decide +kernel
theorem dX7_hasBit_5 : decode cX7_hasBit 5 = .ok (.ifCond .eq 7, 3) := by decide +kernel
theorem dX7_hasBit_8 : decode cX7_hasBit 8 = .ok (.iconst 1, 1) := by decide +kernel
theorem dX7_hasBit_9 : decode cX7_hasBit 9 = .ok (.goto 4, 3) := by decide +kernel
theorem dX7_hasBit_12 : decode cX7_hasBit 12 = .ok (.iconst 0, 1) := by decide +kernel
theorem dX7_hasBit_13 : decode cX7_hasBit 13 = .ok (.ireturn, 1) := by decide +kernel
theorem dJ9_min_7cf53_0 : decode cJ9_min_7cf53 0 = .ok (.iload_n 0, 1) := by decide +kernel
theorem dJ9_min_7cf53_1 : decode cJ9_min_7cf53 1 = .ok (.iload_n 1, 1) := by decide +kernel
theorem dJ9_min_7cf53_2 : decode cJ9_min_7cf53 2 = .ok (.if_icmp .gt 7, 3) := by decide +kernel
theorem dJ9_min_7cf53_5 : decode cJ9_min_7cf53 5 = .ok (.iload_n 0, 1) := by decide +kernel
theorem dJ9_min_7cf53_6 : decode cJ9_min_7cf53 6 = .ok (.goto 4, 3) := by decide +kernel
theorem dJ9_min_7cf53_9 : decode cJ9_min_7cf53 9 = .ok (.iload_n 1, 1) := by decide +kernel
theorem dJ9_min_7cf53_10 : decode cJ9_min_7cf53 10 = .ok (.ireturn, 1) := by decide +kernel
theorem dJ7_fill_53178_0 : decode cJ7_fill_53178 0 = .ok (.iconst 0, 1) := by decide +kernel
theorem dJ7_fill_53178_1 : decode cJ7_fill_53178 1 = .ok (.istore_n 2, 1) := by decide +kernel
theorem dJ7_fill_53178_2 : decode cJ7_fill_53178 2 = .ok (.aload_n 0, 1) := by decide +kernel
theorem dJ7_fill_53178_3 : decode cJ7_fill_53178 3 = .ok (.arraylength, 1) := by decide +kernel
theorem dJ7_fill_53178_4 : decode cJ7_fill_53178 4 = .ok (.istore_n 3, 1) := by decide +kernel
theorem dJ7_fill_53178_5 : decode cJ7_fill_53178 5 = .ok (.iload_n 2, 1) := by decide +kernel
theorem dJ7_fill_53178_6 : decode cJ7_fill_53178 6 = .ok (.iload_n 3, 1) := by decide +kernel
theorem dJ7_fill_53178_7 : decode cJ7_fill_53178 7 = .ok (.if_icmp .ge 13, 3) := by decide +kernel
theorem dJ7_fill_53178_10 : decode cJ7_fill_53178 10 = .ok (.aload_n 0, 1) := by decide +kernel
theorem dJ7_fill_53178_11 : decode cJ7_fill_53178 11 = .ok (.iload_n 2, 1) := by decide +kernel
theorem dJ7_fill_53178_12 : decode cJ7_fill_53178 12 = .ok (.iload_n 1, 1) := by decide +kernel
theorem dJ7_fill_53178_13 : decode cJ7_fill_53178 13 = .ok (.iastore, 1) := by decide +kernel
theorem dJ7_fill_53178_14 : decode cJ7_fill_53178 14 = .ok (.iinc 2 1, 3) := by decide +kernel
theorem dJ7_fill_53178_17 : decode cJ7_fill_53178 17 = .ok (.goto (-12), 3) := by decide +kernel
theorem dJ7_fill_53178_20 : decode cJ7_fill_53178 20 = .ok (.return_, 1) := by decide +kernel
abbrev vwCl : List vw_C := [(RX0, TX0, 4), (RX1, TX1, 10), (RX2, TX2, 2), (RX3, TX3, 10), (RX4, TX4, 3), (RX5, TX5, 9), (RX6, TX6, 9), (RX7, TX7, 9), (RX8, TX8, 44)]
end
section
theorem dX8_init_0 : decode cX8_init 0 = .ok (.aload_n 0, 1) := by decide +kernel
theorem dX8_init_1 : decode cX8_init 1 = .ok (.invokespecial 1, 3) := by decide +kernel
theorem dX8_init_4 : decode cX8_init 4 = .ok (.aload_n 0, 1) := by decide +kernel
theorem dX8_init_5 : decode cX8_init 5 = .ok (.iconst 2, 1) := by decide +kernel
theorem dX8_init_6 : decode cX8_init 6 = .ok (.putfield 7, 3) := by decide +kernel
theorem dX8_init_9 : decode cX8_init 9 = .ok (.aload_n 0, 1) := by decide +kernel
theorem dX8_init_10 : decode cX8_init 10 = .ok (.bipush 24, 2) := by decide +kernel
theorem dX8_init_12 : decode cX8_init 12 = .ok (.newarray .int, 2) := by decide +kernel
theorem dX8_init_14 : decode cX8_init 14 = .ok (.putfield 13, 3) := by decide +kernel
theorem dX8_init_17 : decode cX8_init 17 = .ok (.aload_n 0, 1) := by decide +kernel
theorem dX8_init_18 : decode cX8_init 18 = .ok (.bipush 24, 2) := by decide +kernel
theorem dX8_init_20 : decode cX8_init 20 = .ok (.newarray .int, 2) := by decide +kernel
theorem dX8_init_22 : decode cX8_init 22 = .ok (.putfield 17, 3) := by decide +kernel
theorem dX8_init_25 : decode cX8_init 25 = .ok (.aload_n 0, 1) := by decide +kernel
theorem dX8_init_26 : decode cX8_init 26 = .ok (.bipush 24, 2) := by decide +kernel
theorem dX8_init_28 : decode cX8_init 28 = .ok (.newarray .int, 2) := by decide +kernel
theorem dX8_init_30 : decode cX8_init 30 = .ok (.putfield 20, 3) := by decide +kernel
theorem dX8_init_33 : decode cX8_init 33 = .ok (.aload_n 0, 1) := by decide +kernel
theorem dX8_init_34 : decode cX8_init 34 = .ok (.bipush 24, 2) := by decide +kernel
theorem dX8_init_36 : decode cX8_init 36 = .ok (.newarray .boolean, 2) := by decide +kernel
theorem dX8_init_38 : decode cX8_init 38 = .ok (.putfield 23, 3) := by decide +kernel
theorem dX8_init_41 : decode cX8_init 41 = .ok (.aload_n 0, 1) := by decide +kernel
theorem dX8_init_42 : decode cX8_init 42 = .ok (.bipush 10, 2) := by decide +kernel
theorem dX8_init_44 : decode cX8_init 44 = .ok (.newarray .boolean, 2) := by decide +kernel
theorem dX8_init_46 : decode cX8_init 46 = .ok (.putfield 27, 3) := by decide +kernel
theorem dX8_init_49 : decode cX8_init 49 = .ok (.aload_n 0, 1) := by decide +kernel
theorem dX8_init_50 : decode cX8_init 50 = .ok (.sipush 576, 3) := by decide +kernel
theorem dX8_init_53 : decode cX8_init 53 = .ok (.newarray .boolean, 2) := by decide +kernel
theorem dX8_init_55 : decode cX8_init 55 = .ok (.putfield 30, 3) := by decide +kernel
theorem dX8_init_58 : decode cX8_init 58 = .ok (.aload_n 0, 1) := by decide +kernel
theorem dX8_init_59 : decode cX8_init 59 = .ok (.bipush 10, 2) := by decide +kernel
theorem dX8_init_61 : decode cX8_init 61 = .ok (.newarray .int, 2) := by decide +kernel
theorem dX8_init_63 : decode cX8_init 63 = .ok (.putfield 33, 3) := by decide +kernel
theorem dX8_init_66 : decode cX8_init 66 = .ok (.aload_n 0, 1) := by decide +kernel
theorem dX8_init_67 : decode cX8_init 67 = .ok (.bipush 10, 2) := by decide +kernel
theorem dX8_init_69 : decode cX8_init 69 = .ok (.newarray .int, 2) := by decide +kernel
theorem dX8_init_71 : decode cX8_init 71 = .ok (.putfield 36, 3) := by decide +kernel
theorem dX8_init_74 : decode cX8_init 74 = .ok (.aload_n 0, 1) := by decide +kernel
theorem dX8_init_75 : decode cX8_init 75 = .ok (.bipush 10, 2) := by decide +kernel
theorem dX8_init_77 : decode cX8_init 77 = .ok (.newarray .int, 2) := by decide +kernel
theorem dX8_init_79 : decode cX8_init 79 = .ok (.putfield 39, 3) := by decide +kernel
theorem dX8_init_82 : decode cX8_init 82 = .ok (.aload_n 0, 1) := by decide +kernel
theorem dX8_init_83 : decode cX8_init 83 = .ok (.bipush 10, 2) := by decide +kernel
theorem dX8_init_85 : decode cX8_init 85 = .ok (.newarray .int, 2) := by decide +kernel
theorem dX8_init_87 : decode cX8_init 87 = .ok (.putfield 42, 3) := by decide +kernel
theorem dX8_init_90 : decode cX8_init 90 = .ok (.aload_n 0, 1) := by decide +kernel
theorem dX8_init_91 : decode cX8_init 91 = .ok (.bipush 10, 2) := by decide +kernel
theorem dX8_init_93 : decode cX8_init 93 = .ok (.newarray .int, 2) := by decide +kernel
theorem dX8_init_95 : decode cX8_init 95 = .ok (.putfield 45, 3) := by decide +kernel
theorem dX8_init_98 : decode cX8_init 98 = .ok (.aload_n 0, 1) := by decide +kernel
theorem dX8_init_99 : decode cX8_init 99 = .ok (.bipush 10, 2) := by decide +kernel
theorem dX8_init_101 : decode cX8_init 101 = .ok (.newarray .int, 2) := by decide +kernel
theorem dX8_init_103 : decode cX8_init 103 = .ok (.putfield 48, 3) := by decide +kernel
theorem dX8_init_106 : decode cX8_init 106 = .ok (.aload_n 0, 1) := by decide +kernel
theorem dX8_init_107 : decode cX8_init 107 = .ok (.sipush 512, 3) := by decide +kernel
theorem dX8_init_110 : decode cX8_init 110 = .ok (.newarray .int, 2) := by decide +kernel
theorem dX8_init_112 : decode cX8_init 112 = .ok (.putfield 51, 3) := by decide +kernel
theorem dX8_init_115 : decode cX8_init 115 = .ok (.aload_n 0, 1) := by decide +kernel
theorem dX8_init_116 : decode cX8_init 116 = .ok (.sipush 500, 3) := by decide +kernel
theorem dX8_init_119 : decode cX8_init 119 = .ok (.newarray .int, 2) := by decide +kernel
theorem dX8_init_121 : decode cX8_init 121 = .ok (.putfield 54, 3) := by decide +kernel
theorem dX8_init_124 : decode cX8_init 124 = .ok (.aload_n 0, 1) := by decide +kernel
theorem dX8_init_125 : decode cX8_init 125 = .ok (.bipush 10, 2) := by decide +kernel
theorem dX8_init_127 : decode cX8_init 127 = .ok (.newarray .int, 2) := by decide +kernel
theorem dX8_init_129 : decode cX8_init 129 = .ok (.putfield 57, 3) := by decide +kernel
theorem dX8_init_132 : decode cX8_init 132 = .ok (.aload_n 0, 1) := by decide +kernel
theorem dX8_init_133 : decode cX8_init 133 = .ok (.sipush 1202, 3) := by decide +kernel
theorem dX8_init_136 : decode cX8_init 136 = .ok (.newarray .int, 2) := by decide +kernel
theorem dX8_init_138 : decode cX8_init 138 = .ok (.putfield 60, 3) := by decide +kernel
theorem dX8_init_141 : decode cX8_init 141 = .ok (.aload_n 0, 1) := by decide +kernel
theorem dX8_init_142 : decode cX8_init 142 = .ok (.sipush 1202, 3) := by decide +kernel
theorem dX8_init_145 : decode cX8_init 145 = .ok (.newarray .int, 2) := by decide +kernel
theorem dX8_init_147 : decode cX8_init 147 = .ok (.putfield 63, 3) := by decide +kernel
theorem dX8_init_150 : decode cX8_init 150 = .ok (.aload_n 0, 1) := by decide +kernel
theorem dX8_init_151 : decode cX8_init 151 = .ok (.bipush 68, 2) := by decide +kernel
theorem dX8_init_153 : decode cX8_init 153 = .ok (.newarray .int, 2) := by decide +kernel
theorem dX8_init_155 : decode cX8_init 155 = .ok (.putfield 66, 3) := by decide +kernel
theorem dX8_init_158 : decode cX8_init 158 = .ok (.aload_n 0, 1) := by decide +kernel
theorem dX8_init_159 : decode cX8_init 159 = .ok (.bipush 68, 2) := by decide +kernel
theorem dX8_init_161 : decode cX8_init 161 = .ok (.newarray .int, 2) := by decide +kernel
theorem dX8_init_163 : decode cX8_init 163 = .ok (.putfield 69, 3) := by decide +kernel
theorem dX8_init_166 : decode cX8_init 166 = .ok (.aload_n 0, 1) := by decide +kernel
theorem dX8_init_167 : decode cX8_init 167 = .ok (.bipush 68, 2) := by decide +kernel
theorem dX8_init_169 : decode cX8_init 169 = .ok (.newarray .int, 2) := by decide +kernel
theorem dX8_init_171 : decode cX8_init 171 = .ok (.putfield 72, 3) := by decide +kernel
theorem dX8_init_174 : decode cX8_init 174 = .ok (.aload_n 0, 1) := by decide +kernel
theorem dX8_init_175 : decode cX8_init 175 = .ok (.bipush 68, 2) := by decide +kernel
theorem dX8_init_177 : decode cX8_init 177 = .ok (.newarray .int, 2) := by decide +kernel
theorem dX8_init_179 : decode cX8_init 179 = .ok (.putfield 75, 3) := by decide +kernel
theorem dX8_init_182 : decode cX8_init 182 = .ok (.aload_n 0, 1) := by decide +kernel
theorem dX8_init_183 : decode cX8_init 183 = .ok (.bipush 20, 2) := by decide +kernel
theorem dX8_init_185 : decode cX8_init 185 = .ok (.newarray .int, 2) := by decide +kernel
theorem dX8_init_187 : decode cX8_init 187 = .ok (.putfield 78, 3) := by decide +kernel
theorem dX8_init_190 : decode cX8_init 190 = .ok (.aload_n 0, 1) := by decide +kernel
theorem dX8_init_191 : decode cX8_init 191 = .ok (.bipush 20, 2) := by decide +kernel
theorem dX8_init_193 : decode cX8_init 193 = .ok (.newarray .int, 2) := by decide +kernel
theorem dX8_init_195 : decode cX8_init 195 = .ok (.putfield 81, 3) := by decide +kernel
theorem dX8_init_198 : decode cX8_init 198 = .ok (.aload_n 0, 1) := by decide +kernel
theorem dX8_init_199 : decode cX8_init 199 = .ok (.bipush 24, 2) := by decide +kernel
theorem dX8_init_201 : decode cX8_init 201 = .ok (.newarray .int, 2) := by decide +kernel
theorem dX8_init_203 : decode cX8_init 203 = .ok (.putfield 84, 3) := by decide +kernel
theorem dX8_init_206 : decode cX8_init 206 = .ok (.aload_n 0, 1) := by decide +kernel
theorem dX8_init_207 : decode cX8_init 207 = .ok (.bipush 24, 2) := by decide +kernel
theorem dX8_init_209 : decode cX8_init 209 = .ok (.newarray .int, 2) := by decide +kernel
theorem dX8_init_211 : decode cX8_init 211 = .ok (.putfield 87, 3) := by decide +kernel
theorem dX8_init_214 : decode cX8_init 214 = .ok (.return_, 1) := by decide +kernel
theorem dX8_thrown_0 : decode cX8_thrown 0 = .ok (.aload_n 0, 1) := by decide +kernel
theorem dX8_thrown_1 : decode cX8_thrown 1 = .ok (.getfield 90, 3) := by decide +kernel
theorem dX8_thrown_4 : decode cX8_thrown 4 = .ok (.ireturn, 1) := by decide +kernel
theorem dX8_holds_0 : decode cX8_holds 0 = .ok (.aload_n 0, 1) := by decide +kernel
theorem dX8_holds_1 : decode cX8_holds 1 = .ok (.iload_n 1, 1) := by decide +kernel
theorem dX8_holds_2 : decode cX8_holds 2 = .ok (.putfield 90, 3) := by decide +kernel
theorem dX8_holds_5 : decode cX8_holds 5 = .ok (.iload_n 1, 1) := by decide +kernel
theorem dX8_holds_6 : decode cX8_holds 6 = .ok (.ifCond .ne 7, 3) := by decide +kernel
theorem dX8_holds_9 : decode cX8_holds 9 = .ok (.iconst 1, 1) := by decide +kernel
theorem dX8_holds_10 : decode cX8_holds 10 = .ok (.goto 4, 3) := by decide +kernel
theorem dX8_holds_13 : decode cX8_holds 13 = .ok (.iconst 0, 1) := by decide +kernel
theorem dX8_holds_14 : decode cX8_holds 14 = .ok (.ireturn, 1) := by decide +kernel
theorem dX8_in_0 : decode cX8_in 0 = .ok (.iload_n 0, 1) := by decide +kernel
theorem dX8_in_1 : decode cX8_in 1 = .ok (.iload_n 1, 1) := by decide +kernel
theorem dX8_in_2 : decode cX8_in 2 = .ok (.if_icmp .lt 12, 3) := by decide +kernel
theorem dX8_in_5 : decode cX8_in 5 = .ok (.iload_n 0, 1) := by decide +kernel
theorem dX8_in_6 : decode cX8_in 6 = .ok (.iload_n 2, 1) := by decide +kernel
theorem dX8_in_7 : decode cX8_in 7 = .ok (.if_icmp .gt 7, 3) := by decide +kernel
theorem dX8_in_10 : decode cX8_in 10 = .ok (.iconst 1, 1) := by decide +kernel
theorem dX8_in_11 : decode cX8_in 11 = .ok (.goto 4, 3) := by decide +kernel
theorem dX8_in_14 : decode cX8_in 14 = .ok (.iconst 0, 1) := by decide +kernel
theorem dX8_in_15 : decode cX8_in 15 = .ok (.ireturn, 1) := by decide +kernel
theorem dX8_isNode_0 : decode cX8_isNode 0 = .ok (.iload_n 1, 1) := by decide +kernel
theorem dX8_isNode_1 : decode cX8_isNode 1 = .ok (.iconst 0, 1) := by decide +kernel
theorem dX8_isNode_2 : decode cX8_isNode 2 = .ok (.aload_n 0, 1) := by decide +kernel
theorem dX8_isNode_3 : decode cX8_isNode 3 = .ok (.getfield 7, 3) := by decide +kernel
theorem dX8_isNode_6 : decode cX8_isNode 6 = .ok (.iconst 1, 1) := by decide +kernel
theorem dX8_isNode_7 : decode cX8_isNode 7 = .ok (.isub, 1) := by decide +kernel
theorem dX8_isNode_8 : decode cX8_isNode 8 = .ok (.invokestatic 93, 3) := by decide +kernel
theorem dX8_isNode_11 : decode cX8_isNode 11 = .ok (.ireturn, 1) := by decide +kernel
theorem dX8_areNodes_0 : decode cX8_areNodes 0 = .ok (.aload_n 0, 1) := by decide +kernel
theorem dX8_areNodes_1 : decode cX8_areNodes 1 = .ok (.iload_n 1, 1) := by decide +kernel
theorem dX8_areNodes_2 : decode cX8_areNodes 2 = .ok (.invokevirtual 97, 3) := by decide +kernel
theorem dX8_areNodes_5 : decode cX8_areNodes 5 = .ok (.ifCond .eq 15, 3) := by decide +kernel
theorem dX8_areNodes_8 : decode cX8_areNodes 8 = .ok (.aload_n 0, 1) := by decide +kernel
theorem dX8_areNodes_9 : decode cX8_areNodes 9 = .ok (.iload_n 2, 1) := by decide +kernel
theorem dX8_areNodes_10 : decode cX8_areNodes 10 = .ok (.invokevirtual 97, 3) := by decide +kernel
theorem dX8_areNodes_13 : decode cX8_areNodes 13 = .ok (.ifCond .eq 7, 3) := by decide +kernel
theorem dX8_areNodes_16 : decode cX8_areNodes 16 = .ok (.iconst 1, 1) := by decide +kernel
theorem dX8_areNodes_17 : decode cX8_areNodes 17 = .ok (.goto 4, 3) := by decide +kernel
theorem dX8_areNodes_20 : decode cX8_areNodes 20 = .ok (.iconst 0, 1) := by decide +kernel
theorem dX8_areNodes_21 : decode cX8_areNodes 21 = .ok (.ireturn, 1) := by decide +kernel
theorem dX8_areTwo_0 : decode cX8_areTwo 0 = .ok (.aload_n 0, 1) := by decide +kernel
theorem dX8_areTwo_1 : decode cX8_areTwo 1 = .ok (.iload_n 1, 1) := by decide +kernel
theorem dX8_areTwo_2 : decode cX8_areTwo 2 = .ok (.iload_n 2, 1) := by decide +kernel
theorem dX8_areTwo_3 : decode cX8_areTwo 3 = .ok (.invokevirtual 101, 3) := by decide +kernel
theorem dX8_areTwo_6 : decode cX8_areTwo 6 = .ok (.ifCond .eq 12, 3) := by decide +kernel
theorem dX8_areTwo_9 : decode cX8_areTwo 9 = .ok (.iload_n 1, 1) := by decide +kernel
theorem dX8_areTwo_10 : decode cX8_areTwo 10 = .ok (.iload_n 2, 1) := by decide +kernel
theorem dX8_areTwo_11 : decode cX8_areTwo 11 = .ok (.if_icmp .eq 7, 3) := by decide +kernel
theorem dX8_areTwo_14 : decode cX8_areTwo 14 = .ok (.iconst 1, 1) := by decide +kernel
theorem dX8_areTwo_15 : decode cX8_areTwo 15 = .ok (.goto 4, 3) := by decide +kernel
theorem dX8_areTwo_18 : decode cX8_areTwo 18 = .ok (.iconst 0, 1) := by decide +kernel
theorem dX8_areTwo_19 : decode cX8_areTwo 19 = .ok (.ireturn, 1) := by decide +kernel
theorem dX8_isEdge_0 : decode cX8_isEdge 0 = .ok (.iload_n 1, 1) := by decide +kernel
theorem dX8_isEdge_1 : decode cX8_isEdge 1 = .ok (.iconst 0, 1) := by decide +kernel
theorem dX8_isEdge_2 : decode cX8_isEdge 2 = .ok (.aload_n 0, 1) := by decide +kernel
theorem dX8_isEdge_3 : decode cX8_isEdge 3 = .ok (.getfield 105, 3) := by decide +kernel
theorem dX8_isEdge_6 : decode cX8_isEdge 6 = .ok (.iconst 1, 1) := by decide +kernel
theorem dX8_isEdge_7 : decode cX8_isEdge 7 = .ok (.isub, 1) := by decide +kernel
theorem dX8_isEdge_8 : decode cX8_isEdge 8 = .ok (.invokestatic 93, 3) := by decide +kernel
theorem dX8_isEdge_11 : decode cX8_isEdge 11 = .ok (.ireturn, 1) := by decide +kernel
theorem dX8_isUsable_0 : decode cX8_isUsable 0 = .ok (.aload_n 0, 1) := by decide +kernel
theorem dX8_isUsable_1 : decode cX8_isUsable 1 = .ok (.getfield 23, 3) := by decide +kernel
theorem dX8_isUsable_4 : decode cX8_isUsable 4 = .ok (.iload_n 1, 1) := by decide +kernel
theorem dX8_isUsable_5 : decode cX8_isUsable 5 = .ok (.baload, 1) := by decide +kernel
theorem dX8_isUsable_6 : decode cX8_isUsable 6 = .ok (.ifCond .ne 35, 3) := by decide +kernel
theorem dX8_isUsable_9 : decode cX8_isUsable 9 = .ok (.aload_n 0, 1) := by decide +kernel
theorem dX8_isUsable_10 : decode cX8_isUsable 10 = .ok (.getfield 27, 3) := by decide +kernel
theorem dX8_isUsable_13 : decode cX8_isUsable 13 = .ok (.aload_n 0, 1) := by decide +kernel
theorem dX8_isUsable_14 : decode cX8_isUsable 14 = .ok (.getfield 13, 3) := by decide +kernel
theorem dX8_isUsable_17 : decode cX8_isUsable 17 = .ok (.iload_n 1, 1) := by decide +kernel
theorem dX8_isUsable_18 : decode cX8_isUsable 18 = .ok (.iaload, 1) := by decide +kernel
theorem dX8_isUsable_19 : decode cX8_isUsable 19 = .ok (.baload, 1) := by decide +kernel
theorem dX8_isUsable_20 : decode cX8_isUsable 20 = .ok (.ifCond .ne 21, 3) := by decide +kernel
theorem dX8_isUsable_23 : decode cX8_isUsable 23 = .ok (.aload_n 0, 1) := by decide +kernel
theorem dX8_isUsable_24 : decode cX8_isUsable 24 = .ok (.getfield 27, 3) := by decide +kernel
theorem dX8_isUsable_27 : decode cX8_isUsable 27 = .ok (.aload_n 0, 1) := by decide +kernel
theorem dX8_isUsable_28 : decode cX8_isUsable 28 = .ok (.getfield 17, 3) := by decide +kernel
theorem dX8_isUsable_31 : decode cX8_isUsable 31 = .ok (.iload_n 1, 1) := by decide +kernel
theorem dX8_isUsable_32 : decode cX8_isUsable 32 = .ok (.iaload, 1) := by decide +kernel
theorem dX8_isUsable_33 : decode cX8_isUsable 33 = .ok (.baload, 1) := by decide +kernel
theorem dX8_isUsable_34 : decode cX8_isUsable 34 = .ok (.ifCond .ne 7, 3) := by decide +kernel
theorem dX8_isUsable_37 : decode cX8_isUsable 37 = .ok (.iconst 1, 1) := by decide +kernel
theorem dX8_isUsable_38 : decode cX8_isUsable 38 = .ok (.goto 4, 3) := by decide +kernel
theorem dX8_isUsable_41 : decode cX8_isUsable 41 = .ok (.iconst 0, 1) := by decide +kernel
theorem dX8_isUsable_42 : decode cX8_isUsable 42 = .ok (.ireturn, 1) := by decide +kernel
theorem dX8_isChanged_0 : decode cX8_isChanged 0 = .ok (.aload_n 0, 1) := by decide +kernel
theorem dX8_isChanged_1 : decode cX8_isChanged 1 = .ok (.iconst 0, 1) := by decide +kernel
theorem dX8_isChanged_2 : decode cX8_isChanged 2 = .ok (.putfield 108, 3) := by decide +kernel
theorem dX8_isChanged_5 : decode cX8_isChanged 5 = .ok (.aload_n 0, 1) := by decide +kernel
theorem dX8_isChanged_6 : decode cX8_isChanged 6 = .ok (.iconst 0, 1) := by decide +kernel
theorem dX8_isChanged_7 : decode cX8_isChanged 7 = .ok (.putfield 112, 3) := by decide +kernel
theorem dX8_isChanged_10 : decode cX8_isChanged 10 = .ok (.return_, 1) := by decide +kernel
theorem dX8_begin_0 : decode cX8_begin 0 = .ok (.aload_n 0, 1) := by decide +kernel
theorem dX8_begin_1 : decode cX8_begin 1 = .ok (.iload_n 1, 1) := by decide +kernel
theorem dX8_begin_2 : decode cX8_begin 2 = .ok (.iconst 2, 1) := by decide +kernel
theorem dX8_begin_3 : decode cX8_begin 3 = .ok (.bipush 10, 2) := by decide +kernel
theorem dX8_begin_5 : decode cX8_begin 5 = .ok (.invokestatic 93, 3) := by decide +kernel
theorem dX8_begin_8 : decode cX8_begin 8 = .ok (.ifCond .eq 7, 3) := by decide +kernel
theorem dX8_begin_11 : decode cX8_begin 11 = .ok (.iconst 0, 1) := by decide +kernel
theorem dX8_begin_12 : decode cX8_begin 12 = .ok (.goto 4, 3) := by decide +kernel
theorem dX8_begin_15 : decode cX8_begin 15 = .ok (.iconst 1, 1) := by decide +kernel
theorem dX8_begin_16 : decode cX8_begin 16 = .ok (.invokevirtual 115, 3) := by decide +kernel
theorem dX8_begin_19 : decode cX8_begin 19 = .ok (.ifCond .eq 60, 3) := by decide +kernel
theorem dX8_begin_22 : decode cX8_begin 22 = .ok (.aload_n 0, 1) := by decide +kernel
theorem dX8_begin_23 : decode cX8_begin 23 = .ok (.iload_n 1, 1) := by decide +kernel
theorem dX8_begin_24 : decode cX8_begin 24 = .ok (.putfield 7, 3) := by decide +kernel
theorem dX8_begin_27 : decode cX8_begin 27 = .ok (.aload_n 0, 1) := by decide +kernel
theorem dX8_begin_28 : decode cX8_begin 28 = .ok (.iconst 0, 1) := by decide +kernel
theorem dX8_begin_29 : decode cX8_begin 29 = .ok (.putfield 105, 3) := by decide +kernel
theorem dX8_begin_32 : decode cX8_begin 32 = .ok (.aload_n 0, 1) := by decide +kernel
theorem dX8_begin_33 : decode cX8_begin 33 = .ok (.invokevirtual 118, 3) := by decide +kernel
theorem dX8_begin_36 : decode cX8_begin 36 = .ok (.iconst 0, 1) := by decide +kernel
theorem dX8_begin_37 : decode cX8_begin 37 = .ok (.istore_n 2, 1) := by decide +kernel
theorem dX8_begin_38 : decode cX8_begin 38 = .ok (.iload_n 2, 1) := by decide +kernel
theorem dX8_begin_39 : decode cX8_begin 39 = .ok (.bipush 10, 2) := by decide +kernel
theorem dX8_begin_41 : decode cX8_begin 41 = .ok (.if_icmp .ge 16, 3) := by decide +kernel
theorem dX8_begin_44 : decode cX8_begin 44 = .ok (.aload_n 0, 1) := by decide +kernel
theorem dX8_begin_45 : decode cX8_begin 45 = .ok (.getfield 27, 3) := by decide +kernel
theorem dX8_begin_48 : decode cX8_begin 48 = .ok (.iload_n 2, 1) := by decide +kernel
theorem dX8_begin_49 : decode cX8_begin 49 = .ok (.iconst 0, 1) := by decide +kernel
theorem dX8_begin_50 : decode cX8_begin 50 = .ok (.bastore, 1) := by decide +kernel
theorem dX8_begin_51 : decode cX8_begin 51 = .ok (.iinc 2 1, 3) := by decide +kernel
theorem dX8_begin_54 : decode cX8_begin 54 = .ok (.goto (-16), 3) := by decide +kernel
theorem dX8_begin_57 : decode cX8_begin 57 = .ok (.iconst 0, 1) := by decide +kernel
theorem dX8_begin_58 : decode cX8_begin 58 = .ok (.istore_n 2, 1) := by decide +kernel
theorem dX8_begin_59 : decode cX8_begin 59 = .ok (.iload_n 2, 1) := by decide +kernel
theorem dX8_begin_60 : decode cX8_begin 60 = .ok (.sipush 576, 3) := by decide +kernel
theorem dX8_begin_63 : decode cX8_begin 63 = .ok (.if_icmp .ge 16, 3) := by decide +kernel
theorem dX8_begin_66 : decode cX8_begin 66 = .ok (.aload_n 0, 1) := by decide +kernel
theorem dX8_begin_67 : decode cX8_begin 67 = .ok (.getfield 30, 3) := by decide +kernel
theorem dX8_begin_70 : decode cX8_begin 70 = .ok (.iload_n 2, 1) := by decide +kernel
theorem dX8_begin_71 : decode cX8_begin 71 = .ok (.iconst 0, 1) := by decide +kernel
theorem dX8_begin_72 : decode cX8_begin 72 = .ok (.bastore, 1) := by decide +kernel
theorem dX8_begin_73 : decode cX8_begin 73 = .ok (.iinc 2 1, 3) := by decide +kernel
theorem dX8_begin_76 : decode cX8_begin 76 = .ok (.goto (-17), 3) := by decide +kernel
theorem dX8_begin_79 : decode cX8_begin 79 = .ok (.return_, 1) := by decide +kernel
theorem dX8_addEdge_0 : decode cX8_addEdge 0 = .ok (.aload_n 0, 1) := by decide +kernel
theorem dX8_addEdge_1 : decode cX8_addEdge 1 = .ok (.aload_n 0, 1) := by decide +kernel
theorem dX8_addEdge_2 : decode cX8_addEdge 2 = .ok (.iload_n 1, 1) := by decide +kernel
theorem dX8_addEdge_3 : decode cX8_addEdge 3 = .ok (.iload_n 2, 1) := by decide +kernel
theorem dX8_addEdge_4 : decode cX8_addEdge 4 = .ok (.invokevirtual 121, 3) := by decide +kernel
theorem dX8_addEdge_7 : decode cX8_addEdge 7 = .ok (.ifCond .eq 14, 3) := by decide +kernel
theorem dX8_addEdge_10 : decode cX8_addEdge 10 = .ok (.iload_n 3, 1) := by decide +kernel
theorem dX8_addEdge_11 : decode cX8_addEdge 11 = .ok (.iconst 1, 1) := by decide +kernel
theorem dX8_addEdge_12 : decode cX8_addEdge 12 = .ok (.sipush 1000, 3) := by decide +kernel
theorem dX8_addEdge_15 : decode cX8_addEdge 15 = .ok (.invokestatic 93, 3) := by decide +kernel
theorem dX8_addEdge_18 : decode cX8_addEdge 18 = .ok (.ifCond .ne 7, 3) := by decide +kernel
theorem dX8_addEdge_21 : decode cX8_addEdge 21 = .ok (.iconst 1, 1) := by decide +kernel
theorem dX8_addEdge_22 : decode cX8_addEdge 22 = .ok (.goto 17, 3) := by decide +kernel
theorem dX8_addEdge_25 : decode cX8_addEdge 25 = .ok (.aload_n 0, 1) := by decide +kernel
theorem dX8_addEdge_26 : decode cX8_addEdge 26 = .ok (.getfield 105, 3) := by decide +kernel
theorem dX8_addEdge_29 : decode cX8_addEdge 29 = .ok (.bipush 24, 2) := by decide +kernel
theorem dX8_addEdge_31 : decode cX8_addEdge 31 = .ok (.if_icmp .ne 7, 3) := by decide +kernel
theorem dX8_addEdge_34 : decode cX8_addEdge 34 = .ok (.iconst 2, 1) := by decide +kernel
theorem dX8_addEdge_35 : decode cX8_addEdge 35 = .ok (.goto 4, 3) := by decide +kernel
theorem dX8_addEdge_38 : decode cX8_addEdge 38 = .ok (.iconst 0, 1) := by decide +kernel
theorem dX8_addEdge_39 : decode cX8_addEdge 39 = .ok (.invokevirtual 115, 3) := by decide +kernel
theorem dX8_addEdge_42 : decode cX8_addEdge 42 = .ok (.ifCond .ne 5, 3) := by decide +kernel
theorem dX8_addEdge_45 : decode cX8_addEdge 45 = .ok (.iconst 0, 1) := by decide +kernel
theorem dX8_addEdge_46 : decode cX8_addEdge 46 = .ok (.ireturn, 1) := by decide +kernel
theorem dX8_addEdge_47 : decode cX8_addEdge 47 = .ok (.aload_n 0, 1) := by decide +kernel
theorem dX8_addEdge_48 : decode cX8_addEdge 48 = .ok (.getfield 13, 3) := by decide +kernel
theorem dX8_addEdge_51 : decode cX8_addEdge 51 = .ok (.aload_n 0, 1) := by decide +kernel
theorem dX8_addEdge_52 : decode cX8_addEdge 52 = .ok (.getfield 105, 3) := by decide +kernel
theorem dX8_addEdge_55 : decode cX8_addEdge 55 = .ok (.iload_n 1, 1) := by decide +kernel
theorem dX8_addEdge_56 : decode cX8_addEdge 56 = .ok (.iastore, 1) := by decide +kernel
theorem dX8_addEdge_57 : decode cX8_addEdge 57 = .ok (.aload_n 0, 1) := by decide +kernel
theorem dX8_addEdge_58 : decode cX8_addEdge 58 = .ok (.getfield 17, 3) := by decide +kernel
theorem dX8_addEdge_61 : decode cX8_addEdge 61 = .ok (.aload_n 0, 1) := by decide +kernel
theorem dX8_addEdge_62 : decode cX8_addEdge 62 = .ok (.getfield 105, 3) := by decide +kernel
theorem dX8_addEdge_65 : decode cX8_addEdge 65 = .ok (.iload_n 2, 1) := by decide +kernel
theorem dX8_addEdge_66 : decode cX8_addEdge 66 = .ok (.iastore, 1) := by decide +kernel
theorem dX8_addEdge_67 : decode cX8_addEdge 67 = .ok (.aload_n 0, 1) := by decide +kernel
theorem dX8_addEdge_68 : decode cX8_addEdge 68 = .ok (.getfield 20, 3) := by decide +kernel
theorem dX8_addEdge_71 : decode cX8_addEdge 71 = .ok (.aload_n 0, 1) := by decide +kernel
theorem dX8_addEdge_72 : decode cX8_addEdge 72 = .ok (.getfield 105, 3) := by decide +kernel
theorem dX8_addEdge_75 : decode cX8_addEdge 75 = .ok (.iload_n 3, 1) := by decide +kernel
theorem dX8_addEdge_76 : decode cX8_addEdge 76 = .ok (.iastore, 1) := by decide +kernel
theorem dX8_addEdge_77 : decode cX8_addEdge 77 = .ok (.aload_n 0, 1) := by decide +kernel
theorem dX8_addEdge_78 : decode cX8_addEdge 78 = .ok (.getfield 23, 3) := by decide +kernel
theorem dX8_addEdge_81 : decode cX8_addEdge 81 = .ok (.aload_n 0, 1) := by decide +kernel
theorem dX8_addEdge_82 : decode cX8_addEdge 82 = .ok (.getfield 105, 3) := by decide +kernel
theorem dX8_addEdge_85 : decode cX8_addEdge 85 = .ok (.iconst 0, 1) := by decide +kernel
theorem dX8_addEdge_86 : decode cX8_addEdge 86 = .ok (.bastore, 1) := by decide +kernel
theorem dX8_addEdge_87 : decode cX8_addEdge 87 = .ok (.aload_n 0, 1) := by decide +kernel
theorem dX8_addEdge_88 : decode cX8_addEdge 88 = .ok (.dup, 1) := by decide +kernel
theorem dX8_addEdge_89 : decode cX8_addEdge 89 = .ok (.getfield 105, 3) := by decide +kernel
theorem dX8_addEdge_92 : decode cX8_addEdge 92 = .ok (.iconst 1, 1) := by decide +kernel
theorem dX8_addEdge_93 : decode cX8_addEdge 93 = .ok (.iadd, 1) := by decide +kernel
theorem dX8_addEdge_94 : decode cX8_addEdge 94 = .ok (.putfield 105, 3) := by decide +kernel
theorem dX8_addEdge_97 : decode cX8_addEdge 97 = .ok (.aload_n 0, 1) := by decide +kernel
theorem dX8_addEdge_98 : decode cX8_addEdge 98 = .ok (.invokevirtual 118, 3) := by decide +kernel
theorem dX8_addEdge_101 : decode cX8_addEdge 101 = .ok (.aload_n 0, 1) := by decide +kernel
theorem dX8_addEdge_102 : decode cX8_addEdge 102 = .ok (.getfield 105, 3) := by decide +kernel
theorem dX8_addEdge_105 : decode cX8_addEdge 105 = .ok (.iconst 1, 1) := by decide +kernel
theorem dX8_addEdge_106 : decode cX8_addEdge 106 = .ok (.isub, 1) := by decide +kernel
theorem dX8_addEdge_107 : decode cX8_addEdge 107 = .ok (.ireturn, 1) := by decide +kernel
theorem dX8_setLength_0 : decode cX8_setLength 0 = .ok (.aload_n 0, 1) := by decide +kernel
theorem dX8_setLength_1 : decode cX8_setLength 1 = .ok (.aload_n 0, 1) := by decide +kernel
theorem dX8_setLength_2 : decode cX8_setLength 2 = .ok (.iload_n 1, 1) := by decide +kernel
theorem dX8_setLength_3 : decode cX8_setLength 3 = .ok (.invokevirtual 124, 3) := by decide +kernel
theorem dX8_setLength_6 : decode cX8_setLength 6 = .ok (.ifCond .eq 18, 3) := by decide +kernel
theorem dX8_setLength_9 : decode cX8_setLength 9 = .ok (.iload_n 2, 1) := by decide +kernel
theorem dX8_setLength_10 : decode cX8_setLength 10 = .ok (.iconst 1, 1) := by decide +kernel
theorem dX8_setLength_11 : decode cX8_setLength 11 = .ok (.sipush 1000, 3) := by decide +kernel
theorem dX8_setLength_14 : decode cX8_setLength 14 = .ok (.invokestatic 93, 3) := by decide +kernel
theorem dX8_setLength_17 : decode cX8_setLength 17 = .ok (.ifCond .eq 7, 3) := by decide +kernel
theorem dX8_setLength_20 : decode cX8_setLength 20 = .ok (.iconst 0, 1) := by decide +kernel
theorem dX8_setLength_21 : decode cX8_setLength 21 = .ok (.goto 4, 3) := by decide +kernel
theorem dX8_setLength_24 : decode cX8_setLength 24 = .ok (.iconst 1, 1) := by decide +kernel
theorem dX8_setLength_25 : decode cX8_setLength 25 = .ok (.invokevirtual 115, 3) := by decide +kernel
theorem dX8_setLength_28 : decode cX8_setLength 28 = .ok (.ifCond .ne 5, 3) := by decide +kernel
theorem dX8_setLength_31 : decode cX8_setLength 31 = .ok (.iconst 0, 1) := by decide +kernel
theorem dX8_setLength_32 : decode cX8_setLength 32 = .ok (.ireturn, 1) := by decide +kernel
theorem dX8_setLength_33 : decode cX8_setLength 33 = .ok (.aload_n 0, 1) := by decide +kernel
theorem dX8_setLength_34 : decode cX8_setLength 34 = .ok (.getfield 20, 3) := by decide +kernel
theorem dX8_setLength_37 : decode cX8_setLength 37 = .ok (.iload_n 1, 1) := by decide +kernel
theorem dX8_setLength_38 : decode cX8_setLength 38 = .ok (.iaload, 1) := by decide +kernel
theorem dX8_setLength_39 : decode cX8_setLength 39 = .ok (.istore_n 3, 1) := by decide +kernel
theorem dX8_setLength_40 : decode cX8_setLength 40 = .ok (.aload_n 0, 1) := by decide +kernel
theorem dX8_setLength_41 : decode cX8_setLength 41 = .ok (.getfield 20, 3) := by decide +kernel
theorem dX8_setLength_44 : decode cX8_setLength 44 = .ok (.iload_n 1, 1) := by decide +kernel
theorem dX8_setLength_45 : decode cX8_setLength 45 = .ok (.iload_n 2, 1) := by decide +kernel
theorem dX8_setLength_46 : decode cX8_setLength 46 = .ok (.iastore, 1) := by decide +kernel
theorem dX8_setLength_47 : decode cX8_setLength 47 = .ok (.aload_n 0, 1) := by decide +kernel
theorem dX8_setLength_48 : decode cX8_setLength 48 = .ok (.invokevirtual 118, 3) := by decide +kernel
theorem dX8_setLength_51 : decode cX8_setLength 51 = .ok (.iload_n 3, 1) := by decide +kernel
theorem dX8_setLength_52 : decode cX8_setLength 52 = .ok (.ireturn, 1) := by decide +kernel
theorem dX8_toggleEdge_0 : decode cX8_toggleEdge 0 = .ok (.aload_n 0, 1) := by decide +kernel
theorem dX8_toggleEdge_1 : decode cX8_toggleEdge 1 = .ok (.aload_n 0, 1) := by decide +kernel
theorem dX8_toggleEdge_2 : decode cX8_toggleEdge 2 = .ok (.iload_n 1, 1) := by decide +kernel
theorem dX8_toggleEdge_3 : decode cX8_toggleEdge 3 = .ok (.invokevirtual 124, 3) := by decide +kernel
theorem dX8_toggleEdge_6 : decode cX8_toggleEdge 6 = .ok (.ifCond .eq 7, 3) := by decide +kernel
theorem dX8_toggleEdge_9 : decode cX8_toggleEdge 9 = .ok (.iconst 0, 1) := by decide +kernel
theorem dX8_toggleEdge_10 : decode cX8_toggleEdge 10 = .ok (.goto 4, 3) := by decide +kernel
theorem dX8_toggleEdge_13 : decode cX8_toggleEdge 13 = .ok (.iconst 1, 1) := by decide +kernel
theorem dX8_toggleEdge_14 : decode cX8_toggleEdge 14 = .ok (.invokevirtual 115, 3) := by decide +kernel
theorem dX8_toggleEdge_17 : decode cX8_toggleEdge 17 = .ok (.ifCond .ne 5, 3) := by decide +kernel
theorem dX8_toggleEdge_20 : decode cX8_toggleEdge 20 = .ok (.iconst 0, 1) := by decide +kernel
theorem dX8_toggleEdge_21 : decode cX8_toggleEdge 21 = .ok (.ireturn, 1) := by decide +kernel
theorem dX8_toggleEdge_22 : decode cX8_toggleEdge 22 = .ok (.aload_n 0, 1) := by decide +kernel
theorem dX8_toggleEdge_23 : decode cX8_toggleEdge 23 = .ok (.getfield 23, 3) := by decide +kernel
theorem dX8_toggleEdge_26 : decode cX8_toggleEdge 26 = .ok (.iload_n 1, 1) := by decide +kernel
theorem dX8_toggleEdge_27 : decode cX8_toggleEdge 27 = .ok (.aload_n 0, 1) := by decide +kernel
theorem dX8_toggleEdge_28 : decode cX8_toggleEdge 28 = .ok (.getfield 23, 3) := by decide +kernel
theorem dX8_toggleEdge_31 : decode cX8_toggleEdge 31 = .ok (.iload_n 1, 1) := by decide +kernel
theorem dX8_toggleEdge_32 : decode cX8_toggleEdge 32 = .ok (.baload, 1) := by decide +kernel
theorem dX8_toggleEdge_33 : decode cX8_toggleEdge 33 = .ok (.ifCond .ne 7, 3) := by decide +kernel
theorem dX8_toggleEdge_36 : decode cX8_toggleEdge 36 = .ok (.iconst 1, 1) := by decide +kernel
theorem dX8_toggleEdge_37 : decode cX8_toggleEdge 37 = .ok (.goto 4, 3) := by decide +kernel
theorem dX8_toggleEdge_40 : decode cX8_toggleEdge 40 = .ok (.iconst 0, 1) := by decide +kernel
theorem dX8_toggleEdge_41 : decode cX8_toggleEdge 41 = .ok (.bastore, 1) := by decide +kernel
theorem dX8_toggleEdge_42 : decode cX8_toggleEdge 42 = .ok (.aload_n 0, 1) := by decide +kernel
theorem dX8_toggleEdge_43 : decode cX8_toggleEdge 43 = .ok (.invokevirtual 118, 3) := by decide +kernel
theorem dX8_toggleEdge_46 : decode cX8_toggleEdge 46 = .ok (.aload_n 0, 1) := by decide +kernel
theorem dX8_toggleEdge_47 : decode cX8_toggleEdge 47 = .ok (.getfield 23, 3) := by decide +kernel
theorem dX8_toggleEdge_50 : decode cX8_toggleEdge 50 = .ok (.iload_n 1, 1) := by decide +kernel
theorem dX8_toggleEdge_51 : decode cX8_toggleEdge 51 = .ok (.baload, 1) := by decide +kernel
theorem dX8_toggleEdge_52 : decode cX8_toggleEdge 52 = .ok (.ireturn, 1) := by decide +kernel
theorem dX8_toggleNode_0 : decode cX8_toggleNode 0 = .ok (.aload_n 0, 1) := by decide +kernel
theorem dX8_toggleNode_1 : decode cX8_toggleNode 1 = .ok (.aload_n 0, 1) := by decide +kernel
theorem dX8_toggleNode_2 : decode cX8_toggleNode 2 = .ok (.iload_n 1, 1) := by decide +kernel
theorem dX8_toggleNode_3 : decode cX8_toggleNode 3 = .ok (.invokevirtual 97, 3) := by decide +kernel
theorem dX8_toggleNode_6 : decode cX8_toggleNode 6 = .ok (.ifCond .eq 7, 3) := by decide +kernel
theorem dX8_toggleNode_9 : decode cX8_toggleNode 9 = .ok (.iconst 0, 1) := by decide +kernel
theorem dX8_toggleNode_10 : decode cX8_toggleNode 10 = .ok (.goto 4, 3) := by decide +kernel
theorem dX8_toggleNode_13 : decode cX8_toggleNode 13 = .ok (.iconst 1, 1) := by decide +kernel
theorem dX8_toggleNode_14 : decode cX8_toggleNode 14 = .ok (.invokevirtual 115, 3) := by decide +kernel
theorem dX8_toggleNode_17 : decode cX8_toggleNode 17 = .ok (.ifCond .ne 5, 3) := by decide +kernel
theorem dX8_toggleNode_20 : decode cX8_toggleNode 20 = .ok (.iconst 0, 1) := by decide +kernel
theorem dX8_toggleNode_21 : decode cX8_toggleNode 21 = .ok (.ireturn, 1) := by decide +kernel
theorem dX8_toggleNode_22 : decode cX8_toggleNode 22 = .ok (.aload_n 0, 1) := by decide +kernel
theorem dX8_toggleNode_23 : decode cX8_toggleNode 23 = .ok (.getfield 27, 3) := by decide +kernel
theorem dX8_toggleNode_26 : decode cX8_toggleNode 26 = .ok (.iload_n 1, 1) := by decide +kernel
theorem dX8_toggleNode_27 : decode cX8_toggleNode 27 = .ok (.aload_n 0, 1) := by decide +kernel
theorem dX8_toggleNode_28 : decode cX8_toggleNode 28 = .ok (.getfield 27, 3) := by decide +kernel
theorem dX8_toggleNode_31 : decode cX8_toggleNode 31 = .ok (.iload_n 1, 1) := by decide +kernel
theorem dX8_toggleNode_32 : decode cX8_toggleNode 32 = .ok (.baload, 1) := by decide +kernel
theorem dX8_toggleNode_33 : decode cX8_toggleNode 33 = .ok (.ifCond .ne 7, 3) := by decide +kernel
theorem dX8_toggleNode_36 : decode cX8_toggleNode 36 = .ok (.iconst 1, 1) := by decide +kernel
theorem dX8_toggleNode_37 : decode cX8_toggleNode 37 = .ok (.goto 4, 3) := by decide +kernel
theorem dX8_toggleNode_40 : decode cX8_toggleNode 40 = .ok (.iconst 0, 1) := by decide +kernel
theorem dX8_toggleNode_41 : decode cX8_toggleNode 41 = .ok (.bastore, 1) := by decide +kernel
theorem dX8_toggleNode_42 : decode cX8_toggleNode 42 = .ok (.aload_n 0, 1) := by decide +kernel
theorem dX8_toggleNode_43 : decode cX8_toggleNode 43 = .ok (.invokevirtual 118, 3) := by decide +kernel
theorem dX8_toggleNode_46 : decode cX8_toggleNode 46 = .ok (.aload_n 0, 1) := by decide +kernel
theorem dX8_toggleNode_47 : decode cX8_toggleNode 47 = .ok (.getfield 27, 3) := by decide +kernel
theorem dX8_toggleNode_50 : decode cX8_toggleNode 50 = .ok (.iload_n 1, 1) := by decide +kernel
theorem dX8_toggleNode_51 : decode cX8_toggleNode 51 = .ok (.baload, 1) := by decide +kernel
theorem dX8_toggleNode_52 : decode cX8_toggleNode 52 = .ok (.ireturn, 1) := by decide +kernel
theorem dX8_toggleTurn_0 : decode cX8_toggleTurn 0 = .ok (.aload_n 0, 1) := by decide +kernel
theorem dX8_toggleTurn_1 : decode cX8_toggleTurn 1 = .ok (.aload_n 0, 1) := by decide +kernel
theorem dX8_toggleTurn_2 : decode cX8_toggleTurn 2 = .ok (.iload_n 1, 1) := by decide +kernel
theorem dX8_toggleTurn_3 : decode cX8_toggleTurn 3 = .ok (.invokevirtual 124, 3) := by decide +kernel
theorem dX8_toggleTurn_6 : decode cX8_toggleTurn 6 = .ok (.ifCond .eq 30, 3) := by decide +kernel
theorem dX8_toggleTurn_9 : decode cX8_toggleTurn 9 = .ok (.aload_n 0, 1) := by decide +kernel
theorem dX8_toggleTurn_10 : decode cX8_toggleTurn 10 = .ok (.iload_n 2, 1) := by decide +kernel
theorem dX8_toggleTurn_11 : decode cX8_toggleTurn 11 = .ok (.invokevirtual 124, 3) := by decide +kernel
theorem dX8_toggleTurn_14 : decode cX8_toggleTurn 14 = .ok (.ifCond .eq 22, 3) := by decide +kernel
theorem dX8_toggleTurn_17 : decode cX8_toggleTurn 17 = .ok (.aload_n 0, 1) := by decide +kernel
theorem dX8_toggleTurn_18 : decode cX8_toggleTurn 18 = .ok (.getfield 13, 3) := by decide +kernel
theorem dX8_toggleTurn_21 : decode cX8_toggleTurn 21 = .ok (.iload_n 2, 1) := by decide +kernel
theorem dX8_toggleTurn_22 : decode cX8_toggleTurn 22 = .ok (.iaload, 1) := by decide +kernel
theorem dX8_toggleTurn_23 : decode cX8_toggleTurn 23 = .ok (.aload_n 0, 1) := by decide +kernel
theorem dX8_toggleTurn_24 : decode cX8_toggleTurn 24 = .ok (.getfield 17, 3) := by decide +kernel
theorem dX8_toggleTurn_27 : decode cX8_toggleTurn 27 = .ok (.iload_n 1, 1) := by decide +kernel
theorem dX8_toggleTurn_28 : decode cX8_toggleTurn 28 = .ok (.iaload, 1) := by decide +kernel
theorem dX8_toggleTurn_29 : decode cX8_toggleTurn 29 = .ok (.if_icmp .ne 7, 3) := by decide +kernel
theorem dX8_toggleTurn_32 : decode cX8_toggleTurn 32 = .ok (.iconst 0, 1) := by decide +kernel
theorem dX8_toggleTurn_33 : decode cX8_toggleTurn 33 = .ok (.goto 4, 3) := by decide +kernel
theorem dX8_toggleTurn_36 : decode cX8_toggleTurn 36 = .ok (.iconst 1, 1) := by decide +kernel
theorem dX8_toggleTurn_37 : decode cX8_toggleTurn 37 = .ok (.invokevirtual 115, 3) := by decide +kernel
theorem dX8_toggleTurn_40 : decode cX8_toggleTurn 40 = .ok (.ifCond .ne 5, 3) := by decide +kernel
theorem dX8_toggleTurn_43 : decode cX8_toggleTurn 43 = .ok (.iconst 0, 1) := by decide +kernel
theorem dX8_toggleTurn_44 : decode cX8_toggleTurn 44 = .ok (.ireturn, 1) := by decide +kernel
theorem dX8_toggleTurn_45 : decode cX8_toggleTurn 45 = .ok (.bipush 24, 2) := by decide +kernel
theorem dX8_toggleTurn_47 : decode cX8_toggleTurn 47 = .ok (.iload_n 1, 1) := by decide +kernel
theorem dX8_toggleTurn_48 : decode cX8_toggleTurn 48 = .ok (.imul, 1) := by decide +kernel
theorem dX8_toggleTurn_49 : decode cX8_toggleTurn 49 = .ok (.iload_n 2, 1) := by decide +kernel
theorem dX8_toggleTurn_50 : decode cX8_toggleTurn 50 = .ok (.iadd, 1) := by decide +kernel
theorem dX8_toggleTurn_51 : decode cX8_toggleTurn 51 = .ok (.istore_n 3, 1) := by decide +kernel
theorem dX8_toggleTurn_52 : decode cX8_toggleTurn 52 = .ok (.aload_n 0, 1) := by decide +kernel
theorem dX8_toggleTurn_53 : decode cX8_toggleTurn 53 = .ok (.getfield 30, 3) := by decide +kernel
theorem dX8_toggleTurn_56 : decode cX8_toggleTurn 56 = .ok (.iload_n 3, 1) := by decide +kernel
theorem dX8_toggleTurn_57 : decode cX8_toggleTurn 57 = .ok (.aload_n 0, 1) := by decide +kernel
theorem dX8_toggleTurn_58 : decode cX8_toggleTurn 58 = .ok (.getfield 30, 3) := by decide +kernel
theorem dX8_toggleTurn_61 : decode cX8_toggleTurn 61 = .ok (.iload_n 3, 1) := by decide +kernel
theorem dX8_toggleTurn_62 : decode cX8_toggleTurn 62 = .ok (.baload, 1) := by decide +kernel
theorem dX8_toggleTurn_63 : decode cX8_toggleTurn 63 = .ok (.ifCond .ne 7, 3) := by decide +kernel
theorem dX8_toggleTurn_66 : decode cX8_toggleTurn 66 = .ok (.iconst 1, 1) := by decide +kernel
theorem dX8_toggleTurn_67 : decode cX8_toggleTurn 67 = .ok (.goto 4, 3) := by decide +kernel
theorem dX8_toggleTurn_70 : decode cX8_toggleTurn 70 = .ok (.iconst 0, 1) := by decide +kernel
theorem dX8_toggleTurn_71 : decode cX8_toggleTurn 71 = .ok (.bastore, 1) := by decide +kernel
theorem dX8_toggleTurn_72 : decode cX8_toggleTurn 72 = .ok (.aload_n 0, 1) := by decide +kernel
theorem dX8_toggleTurn_73 : decode cX8_toggleTurn 73 = .ok (.getfield 30, 3) := by decide +kernel
theorem dX8_toggleTurn_76 : decode cX8_toggleTurn 76 = .ok (.iload_n 3, 1) := by decide +kernel
theorem dX8_toggleTurn_77 : decode cX8_toggleTurn 77 = .ok (.baload, 1) := by decide +kernel
theorem dX8_toggleTurn_78 : decode cX8_toggleTurn 78 = .ok (.ireturn, 1) := by decide +kernel
theorem dX8_nodes_0 : decode cX8_nodes 0 = .ok (.aload_n 0, 1) := by decide +kernel
theorem dX8_nodes_1 : decode cX8_nodes 1 = .ok (.iconst 0, 1) := by decide +kernel
theorem dX8_nodes_2 : decode cX8_nodes 2 = .ok (.putfield 90, 3) := by decide +kernel
theorem dX8_nodes_5 : decode cX8_nodes 5 = .ok (.aload_n 0, 1) := by decide +kernel
theorem dX8_nodes_6 : decode cX8_nodes 6 = .ok (.getfield 7, 3) := by decide +kernel
theorem dX8_nodes_9 : decode cX8_nodes 9 = .ok (.ireturn, 1) := by decide +kernel
theorem dX8_edges_0 : decode cX8_edges 0 = .ok (.aload_n 0, 1) := by decide +kernel
theorem dX8_edges_1 : decode cX8_edges 1 = .ok (.iconst 0, 1) := by decide +kernel
theorem dX8_edges_2 : decode cX8_edges 2 = .ok (.putfield 90, 3) := by decide +kernel
theorem dX8_edges_5 : decode cX8_edges 5 = .ok (.aload_n 0, 1) := by decide +kernel
theorem dX8_edges_6 : decode cX8_edges 6 = .ok (.getfield 105, 3) := by decide +kernel
theorem dX8_edges_9 : decode cX8_edges 9 = .ok (.ireturn, 1) := by decide +kernel
theorem dX8_usableEdges_0 : decode cX8_usableEdges 0 = .ok (.aload_n 0, 1) := by decide +kernel
theorem dX8_usableEdges_1 : decode cX8_usableEdges 1 = .ok (.iconst 0, 1) := by decide +kernel
theorem dX8_usableEdges_2 : decode cX8_usableEdges 2 = .ok (.putfield 90, 3) := by decide +kernel
theorem dX8_usableEdges_5 : decode cX8_usableEdges 5 = .ok (.iconst 0, 1) := by decide +kernel
theorem dX8_usableEdges_6 : decode cX8_usableEdges 6 = .ok (.istore_n 1, 1) := by decide +kernel
theorem dX8_usableEdges_7 : decode cX8_usableEdges 7 = .ok (.iconst 0, 1) := by decide +kernel
theorem dX8_usableEdges_8 : decode cX8_usableEdges 8 = .ok (.istore_n 2, 1) := by decide +kernel
theorem dX8_usableEdges_9 : decode cX8_usableEdges 9 = .ok (.iload_n 2, 1) := by decide +kernel
theorem dX8_usableEdges_10 : decode cX8_usableEdges 10 = .ok (.aload_n 0, 1) := by decide +kernel
theorem dX8_usableEdges_11 : decode cX8_usableEdges 11 = .ok (.getfield 105, 3) := by decide +kernel
theorem dX8_usableEdges_14 : decode cX8_usableEdges 14 = .ok (.if_icmp .ge 25, 3) := by decide +kernel
theorem dX8_usableEdges_17 : decode cX8_usableEdges 17 = .ok (.iload_n 1, 1) := by decide +kernel
theorem dX8_usableEdges_18 : decode cX8_usableEdges 18 = .ok (.aload_n 0, 1) := by decide +kernel
theorem dX8_usableEdges_19 : decode cX8_usableEdges 19 = .ok (.iload_n 2, 1) := by decide +kernel
theorem dX8_usableEdges_20 : decode cX8_usableEdges 20 = .ok (.invokevirtual 127, 3) := by decide +kernel
theorem dX8_usableEdges_23 : decode cX8_usableEdges 23 = .ok (.ifCond .eq 7, 3) := by decide +kernel
theorem dX8_usableEdges_26 : decode cX8_usableEdges 26 = .ok (.iconst 1, 1) := by decide +kernel
theorem dX8_usableEdges_27 : decode cX8_usableEdges 27 = .ok (.goto 4, 3) := by decide +kernel
theorem dX8_usableEdges_30 : decode cX8_usableEdges 30 = .ok (.iconst 0, 1) := by decide +kernel
theorem dX8_usableEdges_31 : decode cX8_usableEdges 31 = .ok (.iadd, 1) := by decide +kernel
theorem dX8_usableEdges_32 : decode cX8_usableEdges 32 = .ok (.istore_n 1, 1) := by decide +kernel
theorem dX8_usableEdges_33 : decode cX8_usableEdges 33 = .ok (.iinc 2 1, 3) := by decide +kernel
theorem dX8_usableEdges_36 : decode cX8_usableEdges 36 = .ok (.goto (-27), 3) := by decide +kernel
theorem dX8_usableEdges_39 : decode cX8_usableEdges 39 = .ok (.iload_n 1, 1) := by decide +kernel
theorem dX8_usableEdges_40 : decode cX8_usableEdges 40 = .ok (.ireturn, 1) := by decide +kernel
theorem dX8_shortest_0 : decode cX8_shortest 0 = .ok (.iconst 0, 1) := by decide +kernel
theorem dX8_shortest_1 : decode cX8_shortest 1 = .ok (.istore_n 3, 1) := by decide +kernel
theorem dX8_shortest_2 : decode cX8_shortest 2 = .ok (.iload_n 3, 1) := by decide +kernel
theorem dX8_shortest_3 : decode cX8_shortest 3 = .ok (.aload_n 0, 1) := by decide +kernel
theorem dX8_shortest_4 : decode cX8_shortest 4 = .ok (.getfield 7, 3) := by decide +kernel
theorem dX8_shortest_7 : decode cX8_shortest 7 = .ok (.if_icmp .ge 26, 3) := by decide +kernel
theorem dX8_shortest_10 : decode cX8_shortest 10 = .ok (.aload_n 0, 1) := by decide +kernel
theorem dX8_shortest_11 : decode cX8_shortest 11 = .ok (.getfield 78, 3) := by decide +kernel
theorem dX8_shortest_14 : decode cX8_shortest 14 = .ok (.iload_n 3, 1) := by decide +kernel
theorem dX8_shortest_15 : decode cX8_shortest 15 = .ok (.iload_n 3, 1) := by decide +kernel
theorem dX8_shortest_16 : decode cX8_shortest 16 = .ok (.iload_n 1, 1) := by decide +kernel
theorem dX8_shortest_17 : decode cX8_shortest 17 = .ok (.if_icmp .ne 7, 3) := by decide +kernel
theorem dX8_shortest_20 : decode cX8_shortest 20 = .ok (.iconst 0, 1) := by decide +kernel
theorem dX8_shortest_21 : decode cX8_shortest 21 = .ok (.goto 5, 3) := by decide +kernel
theorem dX8_shortest_24 : decode cX8_shortest 24 = .ok (.ldc 130, 2) := by decide +kernel
theorem dX8_shortest_26 : decode cX8_shortest 26 = .ok (.iastore, 1) := by decide +kernel
theorem dX8_shortest_27 : decode cX8_shortest 27 = .ok (.iinc 3 1, 3) := by decide +kernel
theorem dX8_shortest_30 : decode cX8_shortest 30 = .ok (.goto (-28), 3) := by decide +kernel
theorem dX8_shortest_33 : decode cX8_shortest 33 = .ok (.iconst 1, 1) := by decide +kernel
theorem dX8_shortest_34 : decode cX8_shortest 34 = .ok (.istore_n 3, 1) := by decide +kernel
theorem dX8_shortest_35 : decode cX8_shortest 35 = .ok (.iload_n 3, 1) := by decide +kernel
theorem dX8_shortest_36 : decode cX8_shortest 36 = .ok (.aload_n 0, 1) := by decide +kernel
theorem dX8_shortest_37 : decode cX8_shortest 37 = .ok (.getfield 7, 3) := by decide +kernel
theorem dX8_shortest_40 : decode cX8_shortest 40 = .ok (.if_icmp .ge 89, 3) := by decide +kernel
theorem dX8_shortest_43 : decode cX8_shortest 43 = .ok (.iconst 0, 1) := by decide +kernel
theorem dX8_shortest_44 : decode cX8_shortest 44 = .ok (.istore 4, 2) := by decide +kernel
theorem dX8_shortest_46 : decode cX8_shortest 46 = .ok (.iload 4, 2) := by decide +kernel
theorem dX8_shortest_48 : decode cX8_shortest 48 = .ok (.aload_n 0, 1) := by decide +kernel
theorem dX8_shortest_49 : decode cX8_shortest 49 = .ok (.getfield 105, 3) := by decide +kernel
theorem dX8_shortest_52 : decode cX8_shortest 52 = .ok (.if_icmp .ge 71, 3) := by decide +kernel
theorem dX8_shortest_55 : decode cX8_shortest 55 = .ok (.aload_n 0, 1) := by decide +kernel
theorem dX8_shortest_56 : decode cX8_shortest 56 = .ok (.getfield 78, 3) := by decide +kernel
theorem dX8_shortest_59 : decode cX8_shortest 59 = .ok (.aload_n 0, 1) := by decide +kernel
theorem dX8_shortest_60 : decode cX8_shortest 60 = .ok (.getfield 13, 3) := by decide +kernel
theorem dX8_shortest_63 : decode cX8_shortest 63 = .ok (.iload 4, 2) := by decide +kernel
theorem dX8_shortest_65 : decode cX8_shortest 65 = .ok (.iaload, 1) := by decide +kernel
theorem dX8_shortest_66 : decode cX8_shortest 66 = .ok (.iaload, 1) := by decide +kernel
theorem dX8_shortest_67 : decode cX8_shortest 67 = .ok (.aload_n 0, 1) := by decide +kernel
theorem dX8_shortest_68 : decode cX8_shortest 68 = .ok (.getfield 20, 3) := by decide +kernel
theorem dX8_shortest_71 : decode cX8_shortest 71 = .ok (.iload 4, 2) := by decide +kernel
theorem dX8_shortest_73 : decode cX8_shortest 73 = .ok (.iaload, 1) := by decide +kernel
theorem dX8_shortest_74 : decode cX8_shortest 74 = .ok (.iadd, 1) := by decide +kernel
theorem dX8_shortest_75 : decode cX8_shortest 75 = .ok (.istore 5, 2) := by decide +kernel
theorem dX8_shortest_77 : decode cX8_shortest 77 = .ok (.aload_n 0, 1) := by decide +kernel
theorem dX8_shortest_78 : decode cX8_shortest 78 = .ok (.iload 4, 2) := by decide +kernel
theorem dX8_shortest_80 : decode cX8_shortest 80 = .ok (.invokevirtual 127, 3) := by decide +kernel
theorem dX8_shortest_83 : decode cX8_shortest 83 = .ok (.ifCond .eq 34, 3) := by decide +kernel
theorem dX8_shortest_86 : decode cX8_shortest 86 = .ok (.iload 5, 2) := by decide +kernel
theorem dX8_shortest_88 : decode cX8_shortest 88 = .ok (.aload_n 0, 1) := by decide +kernel
theorem dX8_shortest_89 : decode cX8_shortest 89 = .ok (.getfield 78, 3) := by decide +kernel
theorem dX8_shortest_92 : decode cX8_shortest 92 = .ok (.aload_n 0, 1) := by decide +kernel
theorem dX8_shortest_93 : decode cX8_shortest 93 = .ok (.getfield 17, 3) := by decide +kernel
theorem dX8_shortest_96 : decode cX8_shortest 96 = .ok (.iload 4, 2) := by decide +kernel
theorem dX8_shortest_98 : decode cX8_shortest 98 = .ok (.iaload, 1) := by decide +kernel
theorem dX8_shortest_99 : decode cX8_shortest 99 = .ok (.iaload, 1) := by decide +kernel
theorem dX8_shortest_100 : decode cX8_shortest 100 = .ok (.if_icmp .ge 17, 3) := by decide +kernel
theorem dX8_shortest_103 : decode cX8_shortest 103 = .ok (.aload_n 0, 1) := by decide +kernel
theorem dX8_shortest_104 : decode cX8_shortest 104 = .ok (.getfield 78, 3) := by decide +kernel
theorem dX8_shortest_107 : decode cX8_shortest 107 = .ok (.aload_n 0, 1) := by decide +kernel
theorem dX8_shortest_108 : decode cX8_shortest 108 = .ok (.getfield 17, 3) := by decide +kernel
theorem dX8_shortest_111 : decode cX8_shortest 111 = .ok (.iload 4, 2) := by decide +kernel
theorem dX8_shortest_113 : decode cX8_shortest 113 = .ok (.iaload, 1) := by decide +kernel
theorem dX8_shortest_114 : decode cX8_shortest 114 = .ok (.iload 5, 2) := by decide +kernel
theorem dX8_shortest_116 : decode cX8_shortest 116 = .ok (.iastore, 1) := by decide +kernel
theorem dX8_shortest_117 : decode cX8_shortest 117 = .ok (.iinc 4 1, 3) := by decide +kernel
theorem dX8_shortest_120 : decode cX8_shortest 120 = .ok (.goto (-74), 3) := by decide +kernel
theorem dX8_shortest_123 : decode cX8_shortest 123 = .ok (.iinc 3 1, 3) := by decide +kernel
theorem dX8_shortest_126 : decode cX8_shortest 126 = .ok (.goto (-91), 3) := by decide +kernel
theorem dX8_shortest_129 : decode cX8_shortest 129 = .ok (.aload_n 0, 1) := by decide +kernel
theorem dX8_shortest_130 : decode cX8_shortest 130 = .ok (.getfield 78, 3) := by decide +kernel
theorem dX8_shortest_133 : decode cX8_shortest 133 = .ok (.iload_n 2, 1) := by decide +kernel
theorem dX8_shortest_134 : decode cX8_shortest 134 = .ok (.iaload, 1) := by decide +kernel
theorem dX8_shortest_135 : decode cX8_shortest 135 = .ok (.ireturn, 1) := by decide +kernel
theorem dX8_distance_0 : decode cX8_distance 0 = .ok (.aload_n 0, 1) := by decide +kernel
theorem dX8_distance_1 : decode cX8_distance 1 = .ok (.iload_n 1, 1) := by decide +kernel
theorem dX8_distance_2 : decode cX8_distance 2 = .ok (.iload_n 2, 1) := by decide +kernel
theorem dX8_distance_3 : decode cX8_distance 3 = .ok (.invokevirtual 101, 3) := by decide +kernel
theorem dX8_distance_6 : decode cX8_distance 6 = .ok (.ifCond .eq 12, 3) := by decide +kernel
theorem dX8_distance_9 : decode cX8_distance 9 = .ok (.aload_n 0, 1) := by decide +kernel
theorem dX8_distance_10 : decode cX8_distance 10 = .ok (.iload_n 1, 1) := by decide +kernel
theorem dX8_distance_11 : decode cX8_distance 11 = .ok (.iload_n 2, 1) := by decide +kernel
theorem dX8_distance_12 : decode cX8_distance 12 = .ok (.invokevirtual 131, 3) := by decide +kernel
theorem dX8_distance_15 : decode cX8_distance 15 = .ok (.goto 5, 3) := by decide +kernel
theorem dX8_distance_18 : decode cX8_distance 18 = .ok (.ldc 130, 2) := by decide +kernel
theorem dX8_distance_20 : decode cX8_distance 20 = .ok (.istore_n 3, 1) := by decide +kernel
theorem dX8_distance_21 : decode cX8_distance 21 = .ok (.aload_n 0, 1) := by decide +kernel
theorem dX8_distance_22 : decode cX8_distance 22 = .ok (.aload_n 0, 1) := by decide +kernel
theorem dX8_distance_23 : decode cX8_distance 23 = .ok (.iload_n 1, 1) := by decide +kernel
theorem dX8_distance_24 : decode cX8_distance 24 = .ok (.iload_n 2, 1) := by decide +kernel
theorem dX8_distance_25 : decode cX8_distance 25 = .ok (.invokevirtual 101, 3) := by decide +kernel
theorem dX8_distance_28 : decode cX8_distance 28 = .ok (.ifCond .ne 7, 3) := by decide +kernel
theorem dX8_distance_31 : decode cX8_distance 31 = .ok (.iconst 1, 1) := by decide +kernel
theorem dX8_distance_32 : decode cX8_distance 32 = .ok (.goto 14, 3) := by decide +kernel
theorem dX8_distance_35 : decode cX8_distance 35 = .ok (.iload_n 3, 1) := by decide +kernel
theorem dX8_distance_36 : decode cX8_distance 36 = .ok (.ldc 130, 2) := by decide +kernel
theorem dX8_distance_38 : decode cX8_distance 38 = .ok (.if_icmp .ne 7, 3) := by decide +kernel
theorem dX8_distance_41 : decode cX8_distance 41 = .ok (.iconst 2, 1) := by decide +kernel
theorem dX8_distance_42 : decode cX8_distance 42 = .ok (.goto 4, 3) := by decide +kernel
theorem dX8_distance_45 : decode cX8_distance 45 = .ok (.iconst 0, 1) := by decide +kernel
theorem dX8_distance_46 : decode cX8_distance 46 = .ok (.invokevirtual 115, 3) := by decide +kernel
theorem dX8_distance_49 : decode cX8_distance 49 = .ok (.ifCond .eq 7, 3) := by decide +kernel
theorem dX8_distance_52 : decode cX8_distance 52 = .ok (.iload_n 3, 1) := by decide +kernel
theorem dX8_distance_53 : decode cX8_distance 53 = .ok (.goto 4, 3) := by decide +kernel
theorem dX8_distance_56 : decode cX8_distance 56 = .ok (.iconst 0, 1) := by decide +kernel
theorem dX8_distance_57 : decode cX8_distance 57 = .ok (.ireturn, 1) := by decide +kernel
theorem dX8_goesOn_0 : decode cX8_goesOn 0 = .ok (.aload_n 0, 1) := by decide +kernel
theorem dX8_goesOn_1 : decode cX8_goesOn 1 = .ok (.iload_n 1, 1) := by decide +kernel
theorem dX8_goesOn_2 : decode cX8_goesOn 2 = .ok (.invokevirtual 127, 3) := by decide +kernel
theorem dX8_goesOn_5 : decode cX8_goesOn 5 = .ok (.ifCond .eq 30, 3) := by decide +kernel
theorem dX8_goesOn_8 : decode cX8_goesOn 8 = .ok (.aload_n 0, 1) := by decide +kernel
theorem dX8_goesOn_9 : decode cX8_goesOn 9 = .ok (.getfield 13, 3) := by decide +kernel
theorem dX8_goesOn_12 : decode cX8_goesOn 12 = .ok (.iload_n 1, 1) := by decide +kernel
theorem dX8_goesOn_13 : decode cX8_goesOn 13 = .ok (.iaload, 1) := by decide +kernel
theorem dX8_goesOn_14 : decode cX8_goesOn 14 = .ok (.iload_n 2, 1) := by decide +kernel
theorem dX8_goesOn_15 : decode cX8_goesOn 15 = .ok (.if_icmp .ne 20, 3) := by decide +kernel
theorem dX8_goesOn_18 : decode cX8_goesOn 18 = .ok (.iload_n 3, 1) := by decide +kernel
theorem dX8_goesOn_19 : decode cX8_goesOn 19 = .ok (.aload_n 0, 1) := by decide +kernel
theorem dX8_goesOn_20 : decode cX8_goesOn 20 = .ok (.getfield 17, 3) := by decide +kernel
theorem dX8_goesOn_23 : decode cX8_goesOn 23 = .ok (.iload_n 1, 1) := by decide +kernel
theorem dX8_goesOn_24 : decode cX8_goesOn 24 = .ok (.iaload, 1) := by decide +kernel
theorem dX8_goesOn_25 : decode cX8_goesOn 25 = .ok (.ishr, 1) := by decide +kernel
theorem dX8_goesOn_26 : decode cX8_goesOn 26 = .ok (.iconst 1, 1) := by decide +kernel
theorem dX8_goesOn_27 : decode cX8_goesOn 27 = .ok (.iand, 1) := by decide +kernel
theorem dX8_goesOn_28 : decode cX8_goesOn 28 = .ok (.ifCond .ne 7, 3) := by decide +kernel
theorem dX8_goesOn_31 : decode cX8_goesOn 31 = .ok (.iconst 1, 1) := by decide +kernel
theorem dX8_goesOn_32 : decode cX8_goesOn 32 = .ok (.goto 4, 3) := by decide +kernel
theorem dX8_goesOn_35 : decode cX8_goesOn 35 = .ok (.iconst 0, 1) := by decide +kernel
theorem dX8_goesOn_36 : decode cX8_goesOn 36 = .ok (.ireturn, 1) := by decide +kernel
theorem dX8_isBehind_0 : decode cX8_isBehind 0 = .ok (.iconst 0, 1) := by decide +kernel
theorem dX8_isBehind_1 : decode cX8_isBehind 1 = .ok (.istore_n 2, 1) := by decide +kernel
theorem dX8_isBehind_2 : decode cX8_isBehind 2 = .ok (.iload_n 2, 1) := by decide +kernel
theorem dX8_isBehind_3 : decode cX8_isBehind 3 = .ok (.iload_n 1, 1) := by decide +kernel
theorem dX8_isBehind_4 : decode cX8_isBehind 4 = .ok (.if_icmp .ge 32, 3) := by decide +kernel
theorem dX8_isBehind_7 : decode cX8_isBehind 7 = .ok (.iload_n 2, 1) := by decide +kernel
theorem dX8_isBehind_8 : decode cX8_isBehind 8 = .ok (.aload_n 0, 1) := by decide +kernel
theorem dX8_isBehind_9 : decode cX8_isBehind 9 = .ok (.getfield 135, 3) := by decide +kernel
theorem dX8_isBehind_12 : decode cX8_isBehind 12 = .ok (.if_icmp .ge 24, 3) := by decide +kernel
theorem dX8_isBehind_15 : decode cX8_isBehind 15 = .ok (.aload_n 0, 1) := by decide +kernel
theorem dX8_isBehind_16 : decode cX8_isBehind 16 = .ok (.getfield 36, 3) := by decide +kernel
theorem dX8_isBehind_19 : decode cX8_isBehind 19 = .ok (.iload_n 2, 1) := by decide +kernel
theorem dX8_isBehind_20 : decode cX8_isBehind 20 = .ok (.iaload, 1) := by decide +kernel
theorem dX8_isBehind_21 : decode cX8_isBehind 21 = .ok (.aload_n 0, 1) := by decide +kernel
theorem dX8_isBehind_22 : decode cX8_isBehind 22 = .ok (.getfield 33, 3) := by decide +kernel
theorem dX8_isBehind_25 : decode cX8_isBehind 25 = .ok (.iload_n 2, 1) := by decide +kernel
theorem dX8_isBehind_26 : decode cX8_isBehind 26 = .ok (.iaload, 1) := by decide +kernel
theorem dX8_isBehind_27 : decode cX8_isBehind 27 = .ok (.if_icmp .ne 9, 3) := by decide +kernel
theorem dX8_isBehind_30 : decode cX8_isBehind 30 = .ok (.iinc 2 1, 3) := by decide +kernel
theorem dX8_isBehind_33 : decode cX8_isBehind 33 = .ok (.goto (-31), 3) := by decide +kernel
theorem dX8_isBehind_36 : decode cX8_isBehind 36 = .ok (.iload_n 2, 1) := by decide +kernel
theorem dX8_isBehind_37 : decode cX8_isBehind 37 = .ok (.iload_n 1, 1) := by decide +kernel
theorem dX8_isBehind_38 : decode cX8_isBehind 38 = .ok (.if_icmp .ge 30, 3) := by decide +kernel
theorem dX8_isBehind_41 : decode cX8_isBehind 41 = .ok (.iload_n 2, 1) := by decide +kernel
theorem dX8_isBehind_42 : decode cX8_isBehind 42 = .ok (.aload_n 0, 1) := by decide +kernel
theorem dX8_isBehind_43 : decode cX8_isBehind 43 = .ok (.getfield 135, 3) := by decide +kernel
theorem dX8_isBehind_46 : decode cX8_isBehind 46 = .ok (.if_icmp .ge 22, 3) := by decide +kernel
theorem dX8_isBehind_49 : decode cX8_isBehind 49 = .ok (.aload_n 0, 1) := by decide +kernel
theorem dX8_isBehind_50 : decode cX8_isBehind 50 = .ok (.getfield 36, 3) := by decide +kernel
theorem dX8_isBehind_53 : decode cX8_isBehind 53 = .ok (.iload_n 2, 1) := by decide +kernel
theorem dX8_isBehind_54 : decode cX8_isBehind 54 = .ok (.iaload, 1) := by decide +kernel
theorem dX8_isBehind_55 : decode cX8_isBehind 55 = .ok (.aload_n 0, 1) := by decide +kernel
theorem dX8_isBehind_56 : decode cX8_isBehind 56 = .ok (.getfield 33, 3) := by decide +kernel
theorem dX8_isBehind_59 : decode cX8_isBehind 59 = .ok (.iload_n 2, 1) := by decide +kernel
theorem dX8_isBehind_60 : decode cX8_isBehind 60 = .ok (.iaload, 1) := by decide +kernel
theorem dX8_isBehind_61 : decode cX8_isBehind 61 = .ok (.if_icmp .le 7, 3) := by decide +kernel
theorem dX8_isBehind_64 : decode cX8_isBehind 64 = .ok (.iconst 1, 1) := by decide +kernel
theorem dX8_isBehind_65 : decode cX8_isBehind 65 = .ok (.goto 4, 3) := by decide +kernel
theorem dX8_isBehind_68 : decode cX8_isBehind 68 = .ok (.iconst 0, 1) := by decide +kernel
theorem dX8_isBehind_69 : decode cX8_isBehind 69 = .ok (.ireturn, 1) := by decide +kernel
theorem dX8_meets_0 : decode cX8_meets 0 = .ok (.aload_n 0, 1) := by decide +kernel
theorem dX8_meets_1 : decode cX8_meets 1 = .ok (.getfield 138, 3) := by decide +kernel
theorem dX8_meets_4 : decode cX8_meets 4 = .ok (.ifCond .eq 27, 3) := by decide +kernel
theorem dX8_meets_7 : decode cX8_meets 7 = .ok (.iload_n 2, 1) := by decide +kernel
theorem dX8_meets_8 : decode cX8_meets 8 = .ok (.aload_n 0, 1) := by decide +kernel
theorem dX8_meets_9 : decode cX8_meets 9 = .ok (.getfield 141, 3) := by decide +kernel
theorem dX8_meets_12 : decode cX8_meets 12 = .ok (.if_icmp .gt 19, 3) := by decide +kernel
theorem dX8_meets_15 : decode cX8_meets 15 = .ok (.iload_n 2, 1) := by decide +kernel
theorem dX8_meets_16 : decode cX8_meets 16 = .ok (.aload_n 0, 1) := by decide +kernel
theorem dX8_meets_17 : decode cX8_meets 17 = .ok (.getfield 141, 3) := by decide +kernel
theorem dX8_meets_20 : decode cX8_meets 20 = .ok (.if_icmp .ne 15, 3) := by decide +kernel
theorem dX8_meets_23 : decode cX8_meets 23 = .ok (.aload_n 0, 1) := by decide +kernel
theorem dX8_meets_24 : decode cX8_meets 24 = .ok (.iload_n 1, 1) := by decide +kernel
theorem dX8_meets_25 : decode cX8_meets 25 = .ok (.invokevirtual 144, 3) := by decide +kernel
theorem dX8_meets_28 : decode cX8_meets 28 = .ok (.ifCond .eq 7, 3) := by decide +kernel
theorem dX8_meets_31 : decode cX8_meets 31 = .ok (.iconst 1, 1) := by decide +kernel
theorem dX8_meets_32 : decode cX8_meets 32 = .ok (.goto 4, 3) := by decide +kernel
theorem dX8_meets_35 : decode cX8_meets 35 = .ok (.iconst 0, 1) := by decide +kernel
theorem dX8_meets_36 : decode cX8_meets 36 = .ok (.istore_n 3, 1) := by decide +kernel
theorem dX8_meets_37 : decode cX8_meets 37 = .ok (.iload_n 3, 1) := by decide +kernel
theorem dX8_meets_38 : decode cX8_meets 38 = .ok (.ifCond .eq 57, 3) := by decide +kernel
theorem dX8_meets_41 : decode cX8_meets 41 = .ok (.aload_n 0, 1) := by decide +kernel
theorem dX8_meets_42 : decode cX8_meets 42 = .ok (.getfield 147, 3) := by decide +kernel
theorem dX8_meets_45 : decode cX8_meets 45 = .ok (.ifCond .eq 11, 3) := by decide +kernel
theorem dX8_meets_48 : decode cX8_meets 48 = .ok (.iload_n 2, 1) := by decide +kernel
theorem dX8_meets_49 : decode cX8_meets 49 = .ok (.aload_n 0, 1) := by decide +kernel
theorem dX8_meets_50 : decode cX8_meets 50 = .ok (.getfield 150, 3) := by decide +kernel
theorem dX8_meets_53 : decode cX8_meets 53 = .ok (.if_icmp .ge 42, 3) := by decide +kernel
theorem dX8_meets_56 : decode cX8_meets 56 = .ok (.aload_n 0, 1) := by decide +kernel
theorem dX8_meets_57 : decode cX8_meets 57 = .ok (.iload_n 1, 1) := by decide +kernel
theorem dX8_meets_58 : decode cX8_meets 58 = .ok (.putfield 147, 3) := by decide +kernel
theorem dX8_meets_61 : decode cX8_meets 61 = .ok (.aload_n 0, 1) := by decide +kernel
theorem dX8_meets_62 : decode cX8_meets 62 = .ok (.iload_n 2, 1) := by decide +kernel
theorem dX8_meets_63 : decode cX8_meets 63 = .ok (.putfield 150, 3) := by decide +kernel
theorem dX8_meets_66 : decode cX8_meets 66 = .ok (.iconst 0, 1) := by decide +kernel
theorem dX8_meets_67 : decode cX8_meets 67 = .ok (.istore 4, 2) := by decide +kernel
theorem dX8_meets_69 : decode cX8_meets 69 = .ok (.iload 4, 2) := by decide +kernel
theorem dX8_meets_71 : decode cX8_meets 71 = .ok (.iload_n 1, 1) := by decide +kernel
theorem dX8_meets_72 : decode cX8_meets 72 = .ok (.if_icmp .ge 23, 3) := by decide +kernel
theorem dX8_meets_75 : decode cX8_meets 75 = .ok (.aload_n 0, 1) := by decide +kernel
theorem dX8_meets_76 : decode cX8_meets 76 = .ok (.getfield 48, 3) := by decide +kernel
theorem dX8_meets_79 : decode cX8_meets 79 = .ok (.iload 4, 2) := by decide +kernel
theorem dX8_meets_81 : decode cX8_meets 81 = .ok (.aload_n 0, 1) := by decide +kernel
theorem dX8_meets_82 : decode cX8_meets 82 = .ok (.getfield 36, 3) := by decide +kernel
theorem dX8_meets_85 : decode cX8_meets 85 = .ok (.iload 4, 2) := by decide +kernel
theorem dX8_meets_87 : decode cX8_meets 87 = .ok (.iaload, 1) := by decide +kernel
theorem dX8_meets_88 : decode cX8_meets 88 = .ok (.iastore, 1) := by decide +kernel
theorem dX8_meets_89 : decode cX8_meets 89 = .ok (.iinc 4 1, 3) := by decide +kernel
theorem dX8_meets_92 : decode cX8_meets 92 = .ok (.goto (-23), 3) := by decide +kernel
theorem dX8_meets_95 : decode cX8_meets 95 = .ok (.return_, 1) := by decide +kernel
theorem dX8_goesAlong_0 : decode cX8_goesAlong 0 = .ok (.iconst 0, 1) := by decide +kernel
theorem dX8_goesAlong_1 : decode cX8_goesAlong 1 = .ok (.istore 5, 2) := by decide +kernel
theorem dX8_goesAlong_3 : decode cX8_goesAlong 3 = .ok (.iconst 0, 1) := by decide +kernel
theorem dX8_goesAlong_4 : decode cX8_goesAlong 4 = .ok (.istore 6, 2) := by decide +kernel
theorem dX8_goesAlong_6 : decode cX8_goesAlong 6 = .ok (.iconst 1, 1) := by decide +kernel
theorem dX8_goesAlong_7 : decode cX8_goesAlong 7 = .ok (.iload_n 1, 1) := by decide +kernel
theorem dX8_goesAlong_8 : decode cX8_goesAlong 8 = .ok (.ishl, 1) := by decide +kernel
theorem dX8_goesAlong_9 : decode cX8_goesAlong 9 = .ok (.istore 7, 2) := by decide +kernel
theorem dX8_goesAlong_11 : decode cX8_goesAlong 11 = .ok (.aload_n 0, 1) := by decide +kernel
theorem dX8_goesAlong_12 : decode cX8_goesAlong 12 = .ok (.getfield 39, 3) := by decide +kernel
theorem dX8_goesAlong_15 : decode cX8_goesAlong 15 = .ok (.iconst 0, 1) := by decide +kernel
theorem dX8_goesAlong_16 : decode cX8_goesAlong 16 = .ok (.iload_n 1, 1) := by decide +kernel
theorem dX8_goesAlong_17 : decode cX8_goesAlong 17 = .ok (.iastore, 1) := by decide +kernel
theorem dX8_goesAlong_18 : decode cX8_goesAlong 18 = .ok (.aload_n 0, 1) := by decide +kernel
theorem dX8_goesAlong_19 : decode cX8_goesAlong 19 = .ok (.getfield 42, 3) := by decide +kernel
theorem dX8_goesAlong_22 : decode cX8_goesAlong 22 = .ok (.iconst 0, 1) := by decide +kernel
theorem dX8_goesAlong_23 : decode cX8_goesAlong 23 = .ok (.iconst 0, 1) := by decide +kernel
theorem dX8_goesAlong_24 : decode cX8_goesAlong 24 = .ok (.iastore, 1) := by decide +kernel
theorem dX8_goesAlong_25 : decode cX8_goesAlong 25 = .ok (.aload_n 0, 1) := by decide +kernel
theorem dX8_goesAlong_26 : decode cX8_goesAlong 26 = .ok (.getfield 45, 3) := by decide +kernel
theorem dX8_goesAlong_29 : decode cX8_goesAlong 29 = .ok (.iconst 0, 1) := by decide +kernel
theorem dX8_goesAlong_30 : decode cX8_goesAlong 30 = .ok (.iconst 0, 1) := by decide +kernel
theorem dX8_goesAlong_31 : decode cX8_goesAlong 31 = .ok (.iastore, 1) := by decide +kernel
theorem dX8_goesAlong_32 : decode cX8_goesAlong 32 = .ok (.iload 6, 2) := by decide +kernel
theorem dX8_goesAlong_34 : decode cX8_goesAlong 34 = .ok (.ifCond .lt 194, 3) := by decide +kernel
theorem dX8_goesAlong_37 : decode cX8_goesAlong 37 = .ok (.aload_n 0, 1) := by decide +kernel
theorem dX8_goesAlong_38 : decode cX8_goesAlong 38 = .ok (.getfield 45, 3) := by decide +kernel
theorem dX8_goesAlong_41 : decode cX8_goesAlong 41 = .ok (.iload 6, 2) := by decide +kernel
theorem dX8_goesAlong_43 : decode cX8_goesAlong 43 = .ok (.iaload, 1) := by decide +kernel
theorem dX8_goesAlong_44 : decode cX8_goesAlong 44 = .ok (.istore 8, 2) := by decide +kernel
theorem dX8_goesAlong_46 : decode cX8_goesAlong 46 = .ok (.aload_n 0, 1) := by decide +kernel
theorem dX8_goesAlong_47 : decode cX8_goesAlong 47 = .ok (.getfield 45, 3) := by decide +kernel
theorem dX8_goesAlong_50 : decode cX8_goesAlong 50 = .ok (.iload 6, 2) := by decide +kernel
theorem dX8_goesAlong_52 : decode cX8_goesAlong 52 = .ok (.dup2, 1) := by decide +kernel
theorem dX8_goesAlong_53 : decode cX8_goesAlong 53 = .ok (.iaload, 1) := by decide +kernel
theorem dX8_goesAlong_54 : decode cX8_goesAlong 54 = .ok (.iconst 1, 1) := by decide +kernel
theorem dX8_goesAlong_55 : decode cX8_goesAlong 55 = .ok (.iadd, 1) := by decide +kernel
theorem dX8_goesAlong_56 : decode cX8_goesAlong 56 = .ok (.iastore, 1) := by decide +kernel
theorem dX8_goesAlong_57 : decode cX8_goesAlong 57 = .ok (.iload 8, 2) := by decide +kernel
theorem dX8_goesAlong_59 : decode cX8_goesAlong 59 = .ok (.aload_n 0, 1) := by decide +kernel
theorem dX8_goesAlong_60 : decode cX8_goesAlong 60 = .ok (.getfield 105, 3) := by decide +kernel
theorem dX8_goesAlong_63 : decode cX8_goesAlong 63 = .ok (.if_icmp .ne 25, 3) := by decide +kernel
theorem dX8_goesAlong_66 : decode cX8_goesAlong 66 = .ok (.iload 7, 2) := by decide +kernel
theorem dX8_goesAlong_68 : decode cX8_goesAlong 68 = .ok (.iconst 1, 1) := by decide +kernel
theorem dX8_goesAlong_69 : decode cX8_goesAlong 69 = .ok (.aload_n 0, 1) := by decide +kernel
theorem dX8_goesAlong_70 : decode cX8_goesAlong 70 = .ok (.getfield 39, 3) := by decide +kernel
theorem dX8_goesAlong_73 : decode cX8_goesAlong 73 = .ok (.iload 6, 2) := by decide +kernel
theorem dX8_goesAlong_75 : decode cX8_goesAlong 75 = .ok (.iaload, 1) := by decide +kernel
theorem dX8_goesAlong_76 : decode cX8_goesAlong 76 = .ok (.ishl, 1) := by decide +kernel
theorem dX8_goesAlong_77 : decode cX8_goesAlong 77 = .ok (.iconst (-1), 1) := by decide +kernel
theorem dX8_goesAlong_78 : decode cX8_goesAlong 78 = .ok (.ixor, 1) := by decide +kernel
theorem dX8_goesAlong_79 : decode cX8_goesAlong 79 = .ok (.iand, 1) := by decide +kernel
theorem dX8_goesAlong_80 : decode cX8_goesAlong 80 = .ok (.istore 7, 2) := by decide +kernel
theorem dX8_goesAlong_82 : decode cX8_goesAlong 82 = .ok (.iinc 6 (-1), 3) := by decide +kernel
theorem dX8_goesAlong_85 : decode cX8_goesAlong 85 = .ok (.goto 140, 3) := by decide +kernel
theorem dX8_goesAlong_88 : decode cX8_goesAlong 88 = .ok (.aload_n 0, 1) := by decide +kernel
theorem dX8_goesAlong_89 : decode cX8_goesAlong 89 = .ok (.iload 8, 2) := by decide +kernel
theorem dX8_goesAlong_91 : decode cX8_goesAlong 91 = .ok (.aload_n 0, 1) := by decide +kernel
theorem dX8_goesAlong_92 : decode cX8_goesAlong 92 = .ok (.getfield 39, 3) := by decide +kernel
theorem dX8_goesAlong_95 : decode cX8_goesAlong 95 = .ok (.iload 6, 2) := by decide +kernel
theorem dX8_goesAlong_97 : decode cX8_goesAlong 97 = .ok (.iaload, 1) := by decide +kernel
theorem dX8_goesAlong_98 : decode cX8_goesAlong 98 = .ok (.iload 7, 2) := by decide +kernel
theorem dX8_goesAlong_100 : decode cX8_goesAlong 100 = .ok (.invokevirtual 153, 3) := by decide +kernel
theorem dX8_goesAlong_103 : decode cX8_goesAlong 103 = .ok (.ifCond .eq 122, 3) := by decide +kernel
theorem dX8_goesAlong_106 : decode cX8_goesAlong 106 = .ok (.aload_n 0, 1) := by decide +kernel
theorem dX8_goesAlong_107 : decode cX8_goesAlong 107 = .ok (.getfield 42, 3) := by decide +kernel
theorem dX8_goesAlong_110 : decode cX8_goesAlong 110 = .ok (.iload 6, 2) := by decide +kernel
theorem dX8_goesAlong_112 : decode cX8_goesAlong 112 = .ok (.iaload, 1) := by decide +kernel
theorem dX8_goesAlong_113 : decode cX8_goesAlong 113 = .ok (.aload_n 0, 1) := by decide +kernel
theorem dX8_goesAlong_114 : decode cX8_goesAlong 114 = .ok (.getfield 20, 3) := by decide +kernel
theorem dX8_goesAlong_117 : decode cX8_goesAlong 117 = .ok (.iload 8, 2) := by decide +kernel
theorem dX8_goesAlong_119 : decode cX8_goesAlong 119 = .ok (.iaload, 1) := by decide +kernel
theorem dX8_goesAlong_120 : decode cX8_goesAlong 120 = .ok (.iadd, 1) := by decide +kernel
theorem dX8_goesAlong_121 : decode cX8_goesAlong 121 = .ok (.istore 9, 2) := by decide +kernel
theorem dX8_goesAlong_123 : decode cX8_goesAlong 123 = .ok (.aload_n 0, 1) := by decide +kernel
theorem dX8_goesAlong_124 : decode cX8_goesAlong 124 = .ok (.getfield 36, 3) := by decide +kernel
theorem dX8_goesAlong_127 : decode cX8_goesAlong 127 = .ok (.iload 6, 2) := by decide +kernel
theorem dX8_goesAlong_129 : decode cX8_goesAlong 129 = .ok (.iload 8, 2) := by decide +kernel
theorem dX8_goesAlong_131 : decode cX8_goesAlong 131 = .ok (.iastore, 1) := by decide +kernel
theorem dX8_goesAlong_132 : decode cX8_goesAlong 132 = .ok (.aload_n 0, 1) := by decide +kernel
theorem dX8_goesAlong_133 : decode cX8_goesAlong 133 = .ok (.getfield 17, 3) := by decide +kernel
theorem dX8_goesAlong_136 : decode cX8_goesAlong 136 = .ok (.iload 8, 2) := by decide +kernel
theorem dX8_goesAlong_138 : decode cX8_goesAlong 138 = .ok (.iaload, 1) := by decide +kernel
theorem dX8_goesAlong_139 : decode cX8_goesAlong 139 = .ok (.iload_n 2, 1) := by decide +kernel
theorem dX8_goesAlong_140 : decode cX8_goesAlong 140 = .ok (.if_icmp .ne 37, 3) := by decide +kernel
theorem dX8_goesAlong_143 : decode cX8_goesAlong 143 = .ok (.iload 5, 2) := by decide +kernel
theorem dX8_goesAlong_145 : decode cX8_goesAlong 145 = .ok (.iload 9, 2) := by decide +kernel
theorem dX8_goesAlong_147 : decode cX8_goesAlong 147 = .ok (.iload_n 3, 1) := by decide +kernel
theorem dX8_goesAlong_148 : decode cX8_goesAlong 148 = .ok (.if_icmp .gt 7, 3) := by decide +kernel
theorem dX8_goesAlong_151 : decode cX8_goesAlong 151 = .ok (.iconst 1, 1) := by decide +kernel
theorem dX8_goesAlong_152 : decode cX8_goesAlong 152 = .ok (.goto 4, 3) := by decide +kernel
theorem dX8_goesAlong_155 : decode cX8_goesAlong 155 = .ok (.iconst 0, 1) := by decide +kernel
theorem dX8_goesAlong_156 : decode cX8_goesAlong 156 = .ok (.iadd, 1) := by decide +kernel
theorem dX8_goesAlong_157 : decode cX8_goesAlong 157 = .ok (.istore 5, 2) := by decide +kernel
theorem dX8_goesAlong_159 : decode cX8_goesAlong 159 = .ok (.iload 4, 2) := by decide +kernel
theorem dX8_goesAlong_161 : decode cX8_goesAlong 161 = .ok (.ifCond .eq 64, 3) := by decide +kernel
theorem dX8_goesAlong_164 : decode cX8_goesAlong 164 = .ok (.aload_n 0, 1) := by decide +kernel
theorem dX8_goesAlong_165 : decode cX8_goesAlong 165 = .ok (.iload 6, 2) := by decide +kernel
theorem dX8_goesAlong_167 : decode cX8_goesAlong 167 = .ok (.iconst 1, 1) := by decide +kernel
theorem dX8_goesAlong_168 : decode cX8_goesAlong 168 = .ok (.iadd, 1) := by decide +kernel
theorem dX8_goesAlong_169 : decode cX8_goesAlong 169 = .ok (.iload 9, 2) := by decide +kernel
theorem dX8_goesAlong_171 : decode cX8_goesAlong 171 = .ok (.invokevirtual 156, 3) := by decide +kernel
theorem dX8_goesAlong_174 : decode cX8_goesAlong 174 = .ok (.goto 51, 3) := by decide +kernel
theorem dX8_goesAlong_177 : decode cX8_goesAlong 177 = .ok (.iinc 6 1, 3) := by decide +kernel
theorem dX8_goesAlong_180 : decode cX8_goesAlong 180 = .ok (.aload_n 0, 1) := by decide +kernel
theorem dX8_goesAlong_181 : decode cX8_goesAlong 181 = .ok (.getfield 39, 3) := by decide +kernel
theorem dX8_goesAlong_184 : decode cX8_goesAlong 184 = .ok (.iload 6, 2) := by decide +kernel
theorem dX8_goesAlong_186 : decode cX8_goesAlong 186 = .ok (.aload_n 0, 1) := by decide +kernel
theorem dX8_goesAlong_187 : decode cX8_goesAlong 187 = .ok (.getfield 17, 3) := by decide +kernel
theorem dX8_goesAlong_190 : decode cX8_goesAlong 190 = .ok (.iload 8, 2) := by decide +kernel
theorem dX8_goesAlong_192 : decode cX8_goesAlong 192 = .ok (.iaload, 1) := by decide +kernel
theorem dX8_goesAlong_193 : decode cX8_goesAlong 193 = .ok (.iastore, 1) := by decide +kernel
theorem dX8_goesAlong_194 : decode cX8_goesAlong 194 = .ok (.iload 7, 2) := by decide +kernel
theorem dX8_goesAlong_196 : decode cX8_goesAlong 196 = .ok (.iconst 1, 1) := by decide +kernel
theorem dX8_goesAlong_197 : decode cX8_goesAlong 197 = .ok (.aload_n 0, 1) := by decide +kernel
theorem dX8_goesAlong_198 : decode cX8_goesAlong 198 = .ok (.getfield 17, 3) := by decide +kernel
theorem dX8_goesAlong_201 : decode cX8_goesAlong 201 = .ok (.iload 8, 2) := by decide +kernel
theorem dX8_goesAlong_203 : decode cX8_goesAlong 203 = .ok (.iaload, 1) := by decide +kernel
theorem dX8_goesAlong_204 : decode cX8_goesAlong 204 = .ok (.ishl, 1) := by decide +kernel
theorem dX8_goesAlong_205 : decode cX8_goesAlong 205 = .ok (.ior, 1) := by decide +kernel
theorem dX8_goesAlong_206 : decode cX8_goesAlong 206 = .ok (.istore 7, 2) := by decide +kernel
theorem dX8_goesAlong_208 : decode cX8_goesAlong 208 = .ok (.aload_n 0, 1) := by decide +kernel
theorem dX8_goesAlong_209 : decode cX8_goesAlong 209 = .ok (.getfield 42, 3) := by decide +kernel
theorem dX8_goesAlong_212 : decode cX8_goesAlong 212 = .ok (.iload 6, 2) := by decide +kernel
theorem dX8_goesAlong_214 : decode cX8_goesAlong 214 = .ok (.iload 9, 2) := by decide +kernel
theorem dX8_goesAlong_216 : decode cX8_goesAlong 216 = .ok (.iastore, 1) := by decide +kernel
theorem dX8_goesAlong_217 : decode cX8_goesAlong 217 = .ok (.aload_n 0, 1) := by decide +kernel
theorem dX8_goesAlong_218 : decode cX8_goesAlong 218 = .ok (.getfield 45, 3) := by decide +kernel
theorem dX8_goesAlong_221 : decode cX8_goesAlong 221 = .ok (.iload 6, 2) := by decide +kernel
theorem dX8_goesAlong_223 : decode cX8_goesAlong 223 = .ok (.iconst 0, 1) := by decide +kernel
theorem dX8_goesAlong_224 : decode cX8_goesAlong 224 = .ok (.iastore, 1) := by decide +kernel
theorem dX8_goesAlong_225 : decode cX8_goesAlong 225 = .ok (.goto (-193), 3) := by decide +kernel
theorem dX8_goesAlong_228 : decode cX8_goesAlong 228 = .ok (.iload 5, 2) := by decide +kernel
theorem dX8_goesAlong_230 : decode cX8_goesAlong 230 = .ok (.ireturn, 1) := by decide +kernel
theorem dX8_startPaths_0 : decode cX8_startPaths 0 = .ok (.aload_n 0, 1) := by decide +kernel
theorem dX8_startPaths_1 : decode cX8_startPaths 1 = .ok (.aload_n 0, 1) := by decide +kernel
theorem dX8_startPaths_2 : decode cX8_startPaths 2 = .ok (.iload_n 1, 1) := by decide +kernel
theorem dX8_startPaths_3 : decode cX8_startPaths 3 = .ok (.iload_n 2, 1) := by decide +kernel
theorem dX8_startPaths_4 : decode cX8_startPaths 4 = .ok (.invokevirtual 121, 3) := by decide +kernel
theorem dX8_startPaths_7 : decode cX8_startPaths 7 = .ok (.ifCond .eq 7, 3) := by decide +kernel
theorem dX8_startPaths_10 : decode cX8_startPaths 10 = .ok (.iconst 0, 1) := by decide +kernel
theorem dX8_startPaths_11 : decode cX8_startPaths 11 = .ok (.goto 4, 3) := by decide +kernel
theorem dX8_startPaths_14 : decode cX8_startPaths 14 = .ok (.iconst 1, 1) := by decide +kernel
theorem dX8_startPaths_15 : decode cX8_startPaths 15 = .ok (.invokevirtual 115, 3) := by decide +kernel
theorem dX8_startPaths_18 : decode cX8_startPaths 18 = .ok (.ifCond .eq 28, 3) := by decide +kernel
theorem dX8_startPaths_21 : decode cX8_startPaths 21 = .ok (.aload_n 0, 1) := by decide +kernel
theorem dX8_startPaths_22 : decode cX8_startPaths 22 = .ok (.iconst 1, 1) := by decide +kernel
theorem dX8_startPaths_23 : decode cX8_startPaths 23 = .ok (.putfield 108, 3) := by decide +kernel
theorem dX8_startPaths_26 : decode cX8_startPaths 26 = .ok (.aload_n 0, 1) := by decide +kernel
theorem dX8_startPaths_27 : decode cX8_startPaths 27 = .ok (.iload_n 1, 1) := by decide +kernel
theorem dX8_startPaths_28 : decode cX8_startPaths 28 = .ok (.putfield 160, 3) := by decide +kernel
theorem dX8_startPaths_31 : decode cX8_startPaths 31 = .ok (.aload_n 0, 1) := by decide +kernel
theorem dX8_startPaths_32 : decode cX8_startPaths 32 = .ok (.iload_n 2, 1) := by decide +kernel
theorem dX8_startPaths_33 : decode cX8_startPaths 33 = .ok (.putfield 163, 3) := by decide +kernel
theorem dX8_startPaths_36 : decode cX8_startPaths 36 = .ok (.aload_n 0, 1) := by decide +kernel
theorem dX8_startPaths_37 : decode cX8_startPaths 37 = .ok (.iconst 0, 1) := by decide +kernel
theorem dX8_startPaths_38 : decode cX8_startPaths 38 = .ok (.putfield 138, 3) := by decide +kernel
theorem dX8_startPaths_41 : decode cX8_startPaths 41 = .ok (.aload_n 0, 1) := by decide +kernel
theorem dX8_startPaths_42 : decode cX8_startPaths 42 = .ok (.iconst 0, 1) := by decide +kernel
theorem dX8_startPaths_43 : decode cX8_startPaths 43 = .ok (.putfield 135, 3) := by decide +kernel
theorem dX8_startPaths_46 : decode cX8_startPaths 46 = .ok (.return_, 1) := by decide +kernel
theorem dX8_nextPath_0 : decode cX8_nextPath 0 = .ok (.aload_n 0, 1) := by decide +kernel
theorem dX8_nextPath_1 : decode cX8_nextPath 1 = .ok (.iconst 0, 1) := by decide +kernel
theorem dX8_nextPath_2 : decode cX8_nextPath 2 = .ok (.putfield 147, 3) := by decide +kernel
theorem dX8_nextPath_5 : decode cX8_nextPath 5 = .ok (.aload_n 0, 1) := by decide +kernel
theorem dX8_nextPath_6 : decode cX8_nextPath 6 = .ok (.getfield 108, 3) := by decide +kernel
theorem dX8_nextPath_9 : decode cX8_nextPath 9 = .ok (.ifCond .eq 20, 3) := by decide +kernel
theorem dX8_nextPath_12 : decode cX8_nextPath 12 = .ok (.aload_n 0, 1) := by decide +kernel
theorem dX8_nextPath_13 : decode cX8_nextPath 13 = .ok (.aload_n 0, 1) := by decide +kernel
theorem dX8_nextPath_14 : decode cX8_nextPath 14 = .ok (.getfield 160, 3) := by decide +kernel
theorem dX8_nextPath_17 : decode cX8_nextPath 17 = .ok (.aload_n 0, 1) := by decide +kernel
theorem dX8_nextPath_18 : decode cX8_nextPath 18 = .ok (.getfield 163, 3) := by decide +kernel
theorem dX8_nextPath_21 : decode cX8_nextPath 21 = .ok (.iconst 0, 1) := by decide +kernel
theorem dX8_nextPath_22 : decode cX8_nextPath 22 = .ok (.iconst 1, 1) := by decide +kernel
theorem dX8_nextPath_23 : decode cX8_nextPath 23 = .ok (.invokevirtual 166, 3) := by decide +kernel
theorem dX8_nextPath_26 : decode cX8_nextPath 26 = .ok (.goto 4, 3) := by decide +kernel
theorem dX8_nextPath_29 : decode cX8_nextPath 29 = .ok (.iconst 0, 1) := by decide +kernel
theorem dX8_nextPath_30 : decode cX8_nextPath 30 = .ok (.istore_n 1, 1) := by decide +kernel
theorem dX8_nextPath_31 : decode cX8_nextPath 31 = .ok (.aload_n 0, 1) := by decide +kernel
theorem dX8_nextPath_32 : decode cX8_nextPath 32 = .ok (.aload_n 0, 1) := by decide +kernel
theorem dX8_nextPath_33 : decode cX8_nextPath 33 = .ok (.getfield 108, 3) := by decide +kernel
theorem dX8_nextPath_36 : decode cX8_nextPath 36 = .ok (.ifCond .ne 7, 3) := by decide +kernel
theorem dX8_nextPath_39 : decode cX8_nextPath 39 = .ok (.iconst 1, 1) := by decide +kernel
theorem dX8_nextPath_40 : decode cX8_nextPath 40 = .ok (.goto 15, 3) := by decide +kernel
theorem dX8_nextPath_43 : decode cX8_nextPath 43 = .ok (.aload_n 0, 1) := by decide +kernel
theorem dX8_nextPath_44 : decode cX8_nextPath 44 = .ok (.getfield 147, 3) := by decide +kernel
theorem dX8_nextPath_47 : decode cX8_nextPath 47 = .ok (.ifCond .ne 7, 3) := by decide +kernel
theorem dX8_nextPath_50 : decode cX8_nextPath 50 = .ok (.iconst 2, 1) := by decide +kernel
theorem dX8_nextPath_51 : decode cX8_nextPath 51 = .ok (.goto 4, 3) := by decide +kernel
theorem dX8_nextPath_54 : decode cX8_nextPath 54 = .ok (.iconst 0, 1) := by decide +kernel
theorem dX8_nextPath_55 : decode cX8_nextPath 55 = .ok (.invokevirtual 115, 3) := by decide +kernel
theorem dX8_nextPath_58 : decode cX8_nextPath 58 = .ok (.ifCond .ne 5, 3) := by decide +kernel
theorem dX8_nextPath_61 : decode cX8_nextPath 61 = .ok (.iconst 0, 1) := by decide +kernel
theorem dX8_nextPath_62 : decode cX8_nextPath 62 = .ok (.ireturn, 1) := by decide +kernel
theorem dX8_nextPath_63 : decode cX8_nextPath 63 = .ok (.aload_n 0, 1) := by decide +kernel
theorem dX8_nextPath_64 : decode cX8_nextPath 64 = .ok (.aload_n 0, 1) := by decide +kernel
theorem dX8_nextPath_65 : decode cX8_nextPath 65 = .ok (.getfield 147, 3) := by decide +kernel
theorem dX8_nextPath_68 : decode cX8_nextPath 68 = .ok (.putfield 135, 3) := by decide +kernel
theorem dX8_nextPath_71 : decode cX8_nextPath 71 = .ok (.aload_n 0, 1) := by decide +kernel
theorem dX8_nextPath_72 : decode cX8_nextPath 72 = .ok (.aload_n 0, 1) := by decide +kernel
theorem dX8_nextPath_73 : decode cX8_nextPath 73 = .ok (.getfield 150, 3) := by decide +kernel
theorem dX8_nextPath_76 : decode cX8_nextPath 76 = .ok (.putfield 141, 3) := by decide +kernel
theorem dX8_nextPath_79 : decode cX8_nextPath 79 = .ok (.aload_n 0, 1) := by decide +kernel
theorem dX8_nextPath_80 : decode cX8_nextPath 80 = .ok (.dup, 1) := by decide +kernel
theorem dX8_nextPath_81 : decode cX8_nextPath 81 = .ok (.getfield 138, 3) := by decide +kernel
theorem dX8_nextPath_84 : decode cX8_nextPath 84 = .ok (.iconst 1, 1) := by decide +kernel
theorem dX8_nextPath_85 : decode cX8_nextPath 85 = .ok (.iadd, 1) := by decide +kernel
theorem dX8_nextPath_86 : decode cX8_nextPath 86 = .ok (.putfield 138, 3) := by decide +kernel
theorem dX8_nextPath_89 : decode cX8_nextPath 89 = .ok (.iconst 0, 1) := by decide +kernel
theorem dX8_nextPath_90 : decode cX8_nextPath 90 = .ok (.istore_n 2, 1) := by decide +kernel
theorem dX8_nextPath_91 : decode cX8_nextPath 91 = .ok (.iload_n 2, 1) := by decide +kernel
theorem dX8_nextPath_92 : decode cX8_nextPath 92 = .ok (.aload_n 0, 1) := by decide +kernel
theorem dX8_nextPath_93 : decode cX8_nextPath 93 = .ok (.getfield 135, 3) := by decide +kernel
theorem dX8_nextPath_96 : decode cX8_nextPath 96 = .ok (.if_icmp .ge 21, 3) := by decide +kernel
theorem dX8_nextPath_99 : decode cX8_nextPath 99 = .ok (.aload_n 0, 1) := by decide +kernel
theorem dX8_nextPath_100 : decode cX8_nextPath 100 = .ok (.getfield 33, 3) := by decide +kernel
theorem dX8_nextPath_103 : decode cX8_nextPath 103 = .ok (.iload_n 2, 1) := by decide +kernel
theorem dX8_nextPath_104 : decode cX8_nextPath 104 = .ok (.aload_n 0, 1) := by decide +kernel
theorem dX8_nextPath_105 : decode cX8_nextPath 105 = .ok (.getfield 48, 3) := by decide +kernel
theorem dX8_nextPath_108 : decode cX8_nextPath 108 = .ok (.iload_n 2, 1) := by decide +kernel
theorem dX8_nextPath_109 : decode cX8_nextPath 109 = .ok (.iaload, 1) := by decide +kernel
theorem dX8_nextPath_110 : decode cX8_nextPath 110 = .ok (.iastore, 1) := by decide +kernel
theorem dX8_nextPath_111 : decode cX8_nextPath 111 = .ok (.iinc 2 1, 3) := by decide +kernel
theorem dX8_nextPath_114 : decode cX8_nextPath 114 = .ok (.goto (-23), 3) := by decide +kernel
theorem dX8_nextPath_117 : decode cX8_nextPath 117 = .ok (.aload_n 0, 1) := by decide +kernel
theorem dX8_nextPath_118 : decode cX8_nextPath 118 = .ok (.getfield 141, 3) := by decide +kernel
theorem dX8_nextPath_121 : decode cX8_nextPath 121 = .ok (.ireturn, 1) := by decide +kernel
theorem dX8_pathsDrawn_0 : decode cX8_pathsDrawn 0 = .ok (.aload_n 0, 1) := by decide +kernel
theorem dX8_pathsDrawn_1 : decode cX8_pathsDrawn 1 = .ok (.aload_n 0, 1) := by decide +kernel
theorem dX8_pathsDrawn_2 : decode cX8_pathsDrawn 2 = .ok (.getfield 108, 3) := by decide +kernel
theorem dX8_pathsDrawn_5 : decode cX8_pathsDrawn 5 = .ok (.ifCond .eq 7, 3) := by decide +kernel
theorem dX8_pathsDrawn_8 : decode cX8_pathsDrawn 8 = .ok (.iconst 0, 1) := by decide +kernel
theorem dX8_pathsDrawn_9 : decode cX8_pathsDrawn 9 = .ok (.goto 4, 3) := by decide +kernel
theorem dX8_pathsDrawn_12 : decode cX8_pathsDrawn 12 = .ok (.iconst 1, 1) := by decide +kernel
theorem dX8_pathsDrawn_13 : decode cX8_pathsDrawn 13 = .ok (.invokevirtual 115, 3) := by decide +kernel
theorem dX8_pathsDrawn_16 : decode cX8_pathsDrawn 16 = .ok (.ifCond .eq 10, 3) := by decide +kernel
theorem dX8_pathsDrawn_19 : decode cX8_pathsDrawn 19 = .ok (.aload_n 0, 1) := by decide +kernel
theorem dX8_pathsDrawn_20 : decode cX8_pathsDrawn 20 = .ok (.getfield 138, 3) := by decide +kernel
theorem dX8_pathsDrawn_23 : decode cX8_pathsDrawn 23 = .ok (.goto 4, 3) := by decide +kernel
theorem dX8_pathsDrawn_26 : decode cX8_pathsDrawn 26 = .ok (.iconst 0, 1) := by decide +kernel
theorem dX8_pathsDrawn_27 : decode cX8_pathsDrawn 27 = .ok (.ireturn, 1) := by decide +kernel
theorem dX8_pathEdges_0 : decode cX8_pathEdges 0 = .ok (.aload_n 0, 1) := by decide +kernel
theorem dX8_pathEdges_1 : decode cX8_pathEdges 1 = .ok (.aload_n 0, 1) := by decide +kernel
theorem dX8_pathEdges_2 : decode cX8_pathEdges 2 = .ok (.getfield 108, 3) := by decide +kernel
theorem dX8_pathEdges_5 : decode cX8_pathEdges 5 = .ok (.ifCond .ne 7, 3) := by decide +kernel
theorem dX8_pathEdges_8 : decode cX8_pathEdges 8 = .ok (.iconst 1, 1) := by decide +kernel
theorem dX8_pathEdges_9 : decode cX8_pathEdges 9 = .ok (.goto 15, 3) := by decide +kernel
theorem dX8_pathEdges_12 : decode cX8_pathEdges 12 = .ok (.aload_n 0, 1) := by decide +kernel
theorem dX8_pathEdges_13 : decode cX8_pathEdges 13 = .ok (.getfield 138, 3) := by decide +kernel
theorem dX8_pathEdges_16 : decode cX8_pathEdges 16 = .ok (.ifCond .ne 7, 3) := by decide +kernel
theorem dX8_pathEdges_19 : decode cX8_pathEdges 19 = .ok (.iconst 2, 1) := by decide +kernel
theorem dX8_pathEdges_20 : decode cX8_pathEdges 20 = .ok (.goto 4, 3) := by decide +kernel
theorem dX8_pathEdges_23 : decode cX8_pathEdges 23 = .ok (.iconst 0, 1) := by decide +kernel
theorem dX8_pathEdges_24 : decode cX8_pathEdges 24 = .ok (.invokevirtual 115, 3) := by decide +kernel
theorem dX8_pathEdges_27 : decode cX8_pathEdges 27 = .ok (.ifCond .eq 10, 3) := by decide +kernel
theorem dX8_pathEdges_30 : decode cX8_pathEdges 30 = .ok (.aload_n 0, 1) := by decide +kernel
theorem dX8_pathEdges_31 : decode cX8_pathEdges 31 = .ok (.getfield 135, 3) := by decide +kernel
theorem dX8_pathEdges_34 : decode cX8_pathEdges 34 = .ok (.goto 4, 3) := by decide +kernel
theorem dX8_pathEdges_37 : decode cX8_pathEdges 37 = .ok (.iconst 0, 1) := by decide +kernel
theorem dX8_pathEdges_38 : decode cX8_pathEdges 38 = .ok (.ireturn, 1) := by decide +kernel
theorem dX8_pathEdge_0 : decode cX8_pathEdge 0 = .ok (.aload_n 0, 1) := by decide +kernel
theorem dX8_pathEdge_1 : decode cX8_pathEdge 1 = .ok (.aload_n 0, 1) := by decide +kernel
theorem dX8_pathEdge_2 : decode cX8_pathEdge 2 = .ok (.getfield 108, 3) := by decide +kernel
theorem dX8_pathEdge_5 : decode cX8_pathEdge 5 = .ok (.ifCond .ne 7, 3) := by decide +kernel
theorem dX8_pathEdge_8 : decode cX8_pathEdge 8 = .ok (.iconst 1, 1) := by decide +kernel
theorem dX8_pathEdge_9 : decode cX8_pathEdge 9 = .ok (.goto 22, 3) := by decide +kernel
theorem dX8_pathEdge_12 : decode cX8_pathEdge 12 = .ok (.iload_n 1, 1) := by decide +kernel
theorem dX8_pathEdge_13 : decode cX8_pathEdge 13 = .ok (.iconst 0, 1) := by decide +kernel
theorem dX8_pathEdge_14 : decode cX8_pathEdge 14 = .ok (.aload_n 0, 1) := by decide +kernel
theorem dX8_pathEdge_15 : decode cX8_pathEdge 15 = .ok (.getfield 135, 3) := by decide +kernel
theorem dX8_pathEdge_18 : decode cX8_pathEdge 18 = .ok (.iconst 1, 1) := by decide +kernel
theorem dX8_pathEdge_19 : decode cX8_pathEdge 19 = .ok (.isub, 1) := by decide +kernel
theorem dX8_pathEdge_20 : decode cX8_pathEdge 20 = .ok (.invokestatic 93, 3) := by decide +kernel
theorem dX8_pathEdge_23 : decode cX8_pathEdge 23 = .ok (.ifCond .eq 7, 3) := by decide +kernel
theorem dX8_pathEdge_26 : decode cX8_pathEdge 26 = .ok (.iconst 0, 1) := by decide +kernel
theorem dX8_pathEdge_27 : decode cX8_pathEdge 27 = .ok (.goto 4, 3) := by decide +kernel
theorem dX8_pathEdge_30 : decode cX8_pathEdge 30 = .ok (.iconst 2, 1) := by decide +kernel
theorem dX8_pathEdge_31 : decode cX8_pathEdge 31 = .ok (.invokevirtual 115, 3) := by decide +kernel
theorem dX8_pathEdge_34 : decode cX8_pathEdge 34 = .ok (.ifCond .eq 12, 3) := by decide +kernel
theorem dX8_pathEdge_37 : decode cX8_pathEdge 37 = .ok (.aload_n 0, 1) := by decide +kernel
theorem dX8_pathEdge_38 : decode cX8_pathEdge 38 = .ok (.getfield 33, 3) := by decide +kernel
theorem dX8_pathEdge_41 : decode cX8_pathEdge 41 = .ok (.iload_n 1, 1) := by decide +kernel
theorem dX8_pathEdge_42 : decode cX8_pathEdge 42 = .ok (.iaload, 1) := by decide +kernel
theorem dX8_pathEdge_43 : decode cX8_pathEdge 43 = .ok (.goto 4, 3) := by decide +kernel
theorem dX8_pathEdge_46 : decode cX8_pathEdge 46 = .ok (.iconst 0, 1) := by decide +kernel
theorem dX8_pathEdge_47 : decode cX8_pathEdge 47 = .ok (.ireturn, 1) := by decide +kernel
theorem dX8_countPaths_0 : decode cX8_countPaths 0 = .ok (.aload_n 0, 1) := by decide +kernel
theorem dX8_countPaths_1 : decode cX8_countPaths 1 = .ok (.aload_n 0, 1) := by decide +kernel
theorem dX8_countPaths_2 : decode cX8_countPaths 2 = .ok (.iload_n 1, 1) := by decide +kernel
theorem dX8_countPaths_3 : decode cX8_countPaths 3 = .ok (.iload_n 2, 1) := by decide +kernel
theorem dX8_countPaths_4 : decode cX8_countPaths 4 = .ok (.invokevirtual 121, 3) := by decide +kernel
theorem dX8_countPaths_7 : decode cX8_countPaths 7 = .ok (.ifCond .eq 17, 3) := by decide +kernel
theorem dX8_countPaths_10 : decode cX8_countPaths 10 = .ok (.iload_n 3, 1) := by decide +kernel
theorem dX8_countPaths_11 : decode cX8_countPaths 11 = .ok (.iconst 0, 1) := by decide +kernel
theorem dX8_countPaths_12 : decode cX8_countPaths 12 = .ok (.ldc 170, 2) := by decide +kernel
theorem dX8_countPaths_14 : decode cX8_countPaths 14 = .ok (.invokestatic 93, 3) := by decide +kernel
theorem dX8_countPaths_17 : decode cX8_countPaths 17 = .ok (.ifCond .eq 7, 3) := by decide +kernel
theorem dX8_countPaths_20 : decode cX8_countPaths 20 = .ok (.iconst 0, 1) := by decide +kernel
theorem dX8_countPaths_21 : decode cX8_countPaths 21 = .ok (.goto 4, 3) := by decide +kernel
theorem dX8_countPaths_24 : decode cX8_countPaths 24 = .ok (.iconst 1, 1) := by decide +kernel
theorem dX8_countPaths_25 : decode cX8_countPaths 25 = .ok (.invokevirtual 115, 3) := by decide +kernel
theorem dX8_countPaths_28 : decode cX8_countPaths 28 = .ok (.ifCond .eq 14, 3) := by decide +kernel
theorem dX8_countPaths_31 : decode cX8_countPaths 31 = .ok (.aload_n 0, 1) := by decide +kernel
theorem dX8_countPaths_32 : decode cX8_countPaths 32 = .ok (.iload_n 1, 1) := by decide +kernel
theorem dX8_countPaths_33 : decode cX8_countPaths 33 = .ok (.iload_n 2, 1) := by decide +kernel
theorem dX8_countPaths_34 : decode cX8_countPaths 34 = .ok (.iload_n 3, 1) := by decide +kernel
theorem dX8_countPaths_35 : decode cX8_countPaths 35 = .ok (.iconst 0, 1) := by decide +kernel
theorem dX8_countPaths_36 : decode cX8_countPaths 36 = .ok (.invokevirtual 166, 3) := by decide +kernel
theorem dX8_countPaths_39 : decode cX8_countPaths 39 = .ok (.goto 4, 3) := by decide +kernel
theorem dX8_countPaths_42 : decode cX8_countPaths 42 = .ok (.iconst 0, 1) := by decide +kernel
theorem dX8_countPaths_43 : decode cX8_countPaths 43 = .ok (.ireturn, 1) := by decide +kernel
theorem dX8_waitsAt_0 : decode cX8_waitsAt 0 = .ok (.aload_n 0, 1) := by decide +kernel
theorem dX8_waitsAt_1 : decode cX8_waitsAt 1 = .ok (.getfield 63, 3) := by decide +kernel
theorem dX8_waitsAt_4 : decode cX8_waitsAt 4 = .ok (.aload_n 0, 1) := by decide +kernel
theorem dX8_waitsAt_5 : decode cX8_waitsAt 5 = .ok (.getfield 171, 3) := by decide +kernel
theorem dX8_waitsAt_8 : decode cX8_waitsAt 8 = .ok (.iload_n 1, 1) := by decide +kernel
theorem dX8_waitsAt_9 : decode cX8_waitsAt 9 = .ok (.iastore, 1) := by decide +kernel
theorem dX8_waitsAt_10 : decode cX8_waitsAt 10 = .ok (.aload_n 0, 1) := by decide +kernel
theorem dX8_waitsAt_11 : decode cX8_waitsAt 11 = .ok (.getfield 60, 3) := by decide +kernel
theorem dX8_waitsAt_14 : decode cX8_waitsAt 14 = .ok (.aload_n 0, 1) := by decide +kernel
theorem dX8_waitsAt_15 : decode cX8_waitsAt 15 = .ok (.getfield 171, 3) := by decide +kernel
theorem dX8_waitsAt_18 : decode cX8_waitsAt 18 = .ok (.iload_n 2, 1) := by decide +kernel
theorem dX8_waitsAt_19 : decode cX8_waitsAt 19 = .ok (.iastore, 1) := by decide +kernel
theorem dX8_waitsAt_20 : decode cX8_waitsAt 20 = .ok (.aload_n 0, 1) := by decide +kernel
theorem dX8_waitsAt_21 : decode cX8_waitsAt 21 = .ok (.dup, 1) := by decide +kernel
theorem dX8_waitsAt_22 : decode cX8_waitsAt 22 = .ok (.getfield 171, 3) := by decide +kernel
theorem dX8_waitsAt_25 : decode cX8_waitsAt 25 = .ok (.iconst 1, 1) := by decide +kernel
theorem dX8_waitsAt_26 : decode cX8_waitsAt 26 = .ok (.iadd, 1) := by decide +kernel
theorem dX8_waitsAt_27 : decode cX8_waitsAt 27 = .ok (.putfield 171, 3) := by decide +kernel
theorem dX8_waitsAt_30 : decode cX8_waitsAt 30 = .ok (.return_, 1) := by decide +kernel
theorem dX8_laysFirsts_0 : decode cX8_laysFirsts 0 = .ok (.iconst 0, 1) := by decide +kernel
theorem dX8_laysFirsts_1 : decode cX8_laysFirsts 1 = .ok (.istore_n 2, 1) := by decide +kernel
theorem dX8_laysFirsts_2 : decode cX8_laysFirsts 2 = .ok (.iload_n 2, 1) := by decide +kernel
theorem dX8_laysFirsts_3 : decode cX8_laysFirsts 3 = .ok (.bipush 10, 2) := by decide +kernel
theorem dX8_laysFirsts_5 : decode cX8_laysFirsts 5 = .ok (.if_icmp .ge 16, 3) := by decide +kernel
theorem dX8_laysFirsts_8 : decode cX8_laysFirsts 8 = .ok (.aload_n 0, 1) := by decide +kernel
theorem dX8_laysFirsts_9 : decode cX8_laysFirsts 9 = .ok (.getfield 57, 3) := by decide +kernel
theorem dX8_laysFirsts_12 : decode cX8_laysFirsts 12 = .ok (.iload_n 2, 1) := by decide +kernel
theorem dX8_laysFirsts_13 : decode cX8_laysFirsts 13 = .ok (.iconst 0, 1) := by decide +kernel
theorem dX8_laysFirsts_14 : decode cX8_laysFirsts 14 = .ok (.iastore, 1) := by decide +kernel
theorem dX8_laysFirsts_15 : decode cX8_laysFirsts 15 = .ok (.iinc 2 1, 3) := by decide +kernel
theorem dX8_laysFirsts_18 : decode cX8_laysFirsts 18 = .ok (.goto (-16), 3) := by decide +kernel
theorem dX8_laysFirsts_21 : decode cX8_laysFirsts 21 = .ok (.aload_n 0, 1) := by decide +kernel
theorem dX8_laysFirsts_22 : decode cX8_laysFirsts 22 = .ok (.iconst 0, 1) := by decide +kernel
theorem dX8_laysFirsts_23 : decode cX8_laysFirsts 23 = .ok (.putfield 171, 3) := by decide +kernel
theorem dX8_laysFirsts_26 : decode cX8_laysFirsts 26 = .ok (.aload_n 0, 1) := by decide +kernel
theorem dX8_laysFirsts_27 : decode cX8_laysFirsts 27 = .ok (.iload_n 1, 1) := by decide +kernel
theorem dX8_laysFirsts_28 : decode cX8_laysFirsts 28 = .ok (.iconst 0, 1) := by decide +kernel
theorem dX8_laysFirsts_29 : decode cX8_laysFirsts 29 = .ok (.invokevirtual 174, 3) := by decide +kernel
theorem dX8_laysFirsts_32 : decode cX8_laysFirsts 32 = .ok (.aload_n 0, 1) := by decide +kernel
theorem dX8_laysFirsts_33 : decode cX8_laysFirsts 33 = .ok (.getfield 171, 3) := by decide +kernel
theorem dX8_laysFirsts_36 : decode cX8_laysFirsts 36 = .ok (.ifCond .le 198, 3) := by decide +kernel
theorem dX8_laysFirsts_39 : decode cX8_laysFirsts 39 = .ok (.iconst 0, 1) := by decide +kernel
theorem dX8_laysFirsts_40 : decode cX8_laysFirsts 40 = .ok (.istore_n 2, 1) := by decide +kernel
theorem dX8_laysFirsts_41 : decode cX8_laysFirsts 41 = .ok (.iconst 1, 1) := by decide +kernel
theorem dX8_laysFirsts_42 : decode cX8_laysFirsts 42 = .ok (.istore_n 3, 1) := by decide +kernel
theorem dX8_laysFirsts_43 : decode cX8_laysFirsts 43 = .ok (.iload_n 3, 1) := by decide +kernel
theorem dX8_laysFirsts_44 : decode cX8_laysFirsts 44 = .ok (.aload_n 0, 1) := by decide +kernel
theorem dX8_laysFirsts_45 : decode cX8_laysFirsts 45 = .ok (.getfield 171, 3) := by decide +kernel
theorem dX8_laysFirsts_48 : decode cX8_laysFirsts 48 = .ok (.if_icmp .ge 30, 3) := by decide +kernel
theorem dX8_laysFirsts_51 : decode cX8_laysFirsts 51 = .ok (.aload_n 0, 1) := by decide +kernel
theorem dX8_laysFirsts_52 : decode cX8_laysFirsts 52 = .ok (.getfield 60, 3) := by decide +kernel
theorem dX8_laysFirsts_55 : decode cX8_laysFirsts 55 = .ok (.iload_n 3, 1) := by decide +kernel
theorem dX8_laysFirsts_56 : decode cX8_laysFirsts 56 = .ok (.iaload, 1) := by decide +kernel
theorem dX8_laysFirsts_57 : decode cX8_laysFirsts 57 = .ok (.aload_n 0, 1) := by decide +kernel
theorem dX8_laysFirsts_58 : decode cX8_laysFirsts 58 = .ok (.getfield 60, 3) := by decide +kernel
theorem dX8_laysFirsts_61 : decode cX8_laysFirsts 61 = .ok (.iload_n 2, 1) := by decide +kernel
theorem dX8_laysFirsts_62 : decode cX8_laysFirsts 62 = .ok (.iaload, 1) := by decide +kernel
theorem dX8_laysFirsts_63 : decode cX8_laysFirsts 63 = .ok (.if_icmp .ge 7, 3) := by decide +kernel
theorem dX8_laysFirsts_66 : decode cX8_laysFirsts 66 = .ok (.iload_n 3, 1) := by decide +kernel
theorem dX8_laysFirsts_67 : decode cX8_laysFirsts 67 = .ok (.goto 4, 3) := by decide +kernel
theorem dX8_laysFirsts_70 : decode cX8_laysFirsts 70 = .ok (.iload_n 2, 1) := by decide +kernel
theorem dX8_laysFirsts_71 : decode cX8_laysFirsts 71 = .ok (.istore_n 2, 1) := by decide +kernel
theorem dX8_laysFirsts_72 : decode cX8_laysFirsts 72 = .ok (.iinc 3 1, 3) := by decide +kernel
theorem dX8_laysFirsts_75 : decode cX8_laysFirsts 75 = .ok (.goto (-32), 3) := by decide +kernel
theorem dX8_laysFirsts_78 : decode cX8_laysFirsts 78 = .ok (.aload_n 0, 1) := by decide +kernel
theorem dX8_laysFirsts_79 : decode cX8_laysFirsts 79 = .ok (.getfield 63, 3) := by decide +kernel
theorem dX8_laysFirsts_82 : decode cX8_laysFirsts 82 = .ok (.iload_n 2, 1) := by decide +kernel
theorem dX8_laysFirsts_83 : decode cX8_laysFirsts 83 = .ok (.iaload, 1) := by decide +kernel
theorem dX8_laysFirsts_84 : decode cX8_laysFirsts 84 = .ok (.istore_n 3, 1) := by decide +kernel
theorem dX8_laysFirsts_85 : decode cX8_laysFirsts 85 = .ok (.aload_n 0, 1) := by decide +kernel
theorem dX8_laysFirsts_86 : decode cX8_laysFirsts 86 = .ok (.getfield 60, 3) := by decide +kernel
theorem dX8_laysFirsts_89 : decode cX8_laysFirsts 89 = .ok (.iload_n 2, 1) := by decide +kernel
theorem dX8_laysFirsts_90 : decode cX8_laysFirsts 90 = .ok (.iaload, 1) := by decide +kernel
theorem dX8_laysFirsts_91 : decode cX8_laysFirsts 91 = .ok (.istore 4, 2) := by decide +kernel
theorem dX8_laysFirsts_93 : decode cX8_laysFirsts 93 = .ok (.aload_n 0, 1) := by decide +kernel
theorem dX8_laysFirsts_94 : decode cX8_laysFirsts 94 = .ok (.dup, 1) := by decide +kernel
theorem dX8_laysFirsts_95 : decode cX8_laysFirsts 95 = .ok (.getfield 171, 3) := by decide +kernel
theorem dX8_laysFirsts_98 : decode cX8_laysFirsts 98 = .ok (.iconst 1, 1) := by decide +kernel
theorem dX8_laysFirsts_99 : decode cX8_laysFirsts 99 = .ok (.isub, 1) := by decide +kernel
theorem dX8_laysFirsts_100 : decode cX8_laysFirsts 100 = .ok (.putfield 171, 3) := by decide +kernel
theorem dX8_laysFirsts_103 : decode cX8_laysFirsts 103 = .ok (.aload_n 0, 1) := by decide +kernel
theorem dX8_laysFirsts_104 : decode cX8_laysFirsts 104 = .ok (.getfield 63, 3) := by decide +kernel
theorem dX8_laysFirsts_107 : decode cX8_laysFirsts 107 = .ok (.iload_n 2, 1) := by decide +kernel
theorem dX8_laysFirsts_108 : decode cX8_laysFirsts 108 = .ok (.aload_n 0, 1) := by decide +kernel
theorem dX8_laysFirsts_109 : decode cX8_laysFirsts 109 = .ok (.getfield 63, 3) := by decide +kernel
theorem dX8_laysFirsts_112 : decode cX8_laysFirsts 112 = .ok (.aload_n 0, 1) := by decide +kernel
theorem dX8_laysFirsts_113 : decode cX8_laysFirsts 113 = .ok (.getfield 171, 3) := by decide +kernel
theorem dX8_laysFirsts_116 : decode cX8_laysFirsts 116 = .ok (.iaload, 1) := by decide +kernel
theorem dX8_laysFirsts_117 : decode cX8_laysFirsts 117 = .ok (.iastore, 1) := by decide +kernel
theorem dX8_laysFirsts_118 : decode cX8_laysFirsts 118 = .ok (.aload_n 0, 1) := by decide +kernel
theorem dX8_laysFirsts_119 : decode cX8_laysFirsts 119 = .ok (.getfield 60, 3) := by decide +kernel
theorem dX8_laysFirsts_122 : decode cX8_laysFirsts 122 = .ok (.iload_n 2, 1) := by decide +kernel
theorem dX8_laysFirsts_123 : decode cX8_laysFirsts 123 = .ok (.aload_n 0, 1) := by decide +kernel
theorem dX8_laysFirsts_124 : decode cX8_laysFirsts 124 = .ok (.getfield 60, 3) := by decide +kernel
theorem dX8_laysFirsts_127 : decode cX8_laysFirsts 127 = .ok (.aload_n 0, 1) := by decide +kernel
theorem dX8_laysFirsts_128 : decode cX8_laysFirsts 128 = .ok (.getfield 171, 3) := by decide +kernel
theorem dX8_laysFirsts_131 : decode cX8_laysFirsts 131 = .ok (.iaload, 1) := by decide +kernel
theorem dX8_laysFirsts_132 : decode cX8_laysFirsts 132 = .ok (.iastore, 1) := by decide +kernel
theorem dX8_laysFirsts_133 : decode cX8_laysFirsts 133 = .ok (.aload_n 0, 1) := by decide +kernel
theorem dX8_laysFirsts_134 : decode cX8_laysFirsts 134 = .ok (.getfield 57, 3) := by decide +kernel
theorem dX8_laysFirsts_137 : decode cX8_laysFirsts 137 = .ok (.iload_n 3, 1) := by decide +kernel
theorem dX8_laysFirsts_138 : decode cX8_laysFirsts 138 = .ok (.iaload, 1) := by decide +kernel
theorem dX8_laysFirsts_139 : decode cX8_laysFirsts 139 = .ok (.bipush 50, 2) := by decide +kernel
theorem dX8_laysFirsts_141 : decode cX8_laysFirsts 141 = .ok (.if_icmp .ge 90, 3) := by decide +kernel
theorem dX8_laysFirsts_144 : decode cX8_laysFirsts 144 = .ok (.aload_n 0, 1) := by decide +kernel
theorem dX8_laysFirsts_145 : decode cX8_laysFirsts 145 = .ok (.getfield 54, 3) := by decide +kernel
theorem dX8_laysFirsts_148 : decode cX8_laysFirsts 148 = .ok (.bipush 50, 2) := by decide +kernel
theorem dX8_laysFirsts_150 : decode cX8_laysFirsts 150 = .ok (.iload_n 3, 1) := by decide +kernel
theorem dX8_laysFirsts_151 : decode cX8_laysFirsts 151 = .ok (.imul, 1) := by decide +kernel
theorem dX8_laysFirsts_152 : decode cX8_laysFirsts 152 = .ok (.aload_n 0, 1) := by decide +kernel
theorem dX8_laysFirsts_153 : decode cX8_laysFirsts 153 = .ok (.getfield 57, 3) := by decide +kernel
theorem dX8_laysFirsts_156 : decode cX8_laysFirsts 156 = .ok (.iload_n 3, 1) := by decide +kernel
theorem dX8_laysFirsts_157 : decode cX8_laysFirsts 157 = .ok (.iaload, 1) := by decide +kernel
theorem dX8_laysFirsts_158 : decode cX8_laysFirsts 158 = .ok (.iadd, 1) := by decide +kernel
theorem dX8_laysFirsts_159 : decode cX8_laysFirsts 159 = .ok (.iload 4, 2) := by decide +kernel
theorem dX8_laysFirsts_161 : decode cX8_laysFirsts 161 = .ok (.iastore, 1) := by decide +kernel
theorem dX8_laysFirsts_162 : decode cX8_laysFirsts 162 = .ok (.aload_n 0, 1) := by decide +kernel
theorem dX8_laysFirsts_163 : decode cX8_laysFirsts 163 = .ok (.getfield 57, 3) := by decide +kernel
theorem dX8_laysFirsts_166 : decode cX8_laysFirsts 166 = .ok (.iload_n 3, 1) := by decide +kernel
theorem dX8_laysFirsts_167 : decode cX8_laysFirsts 167 = .ok (.dup2, 1) := by decide +kernel
theorem dX8_laysFirsts_168 : decode cX8_laysFirsts 168 = .ok (.iaload, 1) := by decide +kernel
theorem dX8_laysFirsts_169 : decode cX8_laysFirsts 169 = .ok (.iconst 1, 1) := by decide +kernel
theorem dX8_laysFirsts_170 : decode cX8_laysFirsts 170 = .ok (.iadd, 1) := by decide +kernel
theorem dX8_laysFirsts_171 : decode cX8_laysFirsts 171 = .ok (.iastore, 1) := by decide +kernel
theorem dX8_laysFirsts_172 : decode cX8_laysFirsts 172 = .ok (.iconst 0, 1) := by decide +kernel
theorem dX8_laysFirsts_173 : decode cX8_laysFirsts 173 = .ok (.istore 5, 2) := by decide +kernel
theorem dX8_laysFirsts_175 : decode cX8_laysFirsts 175 = .ok (.iload 5, 2) := by decide +kernel
theorem dX8_laysFirsts_177 : decode cX8_laysFirsts 177 = .ok (.aload_n 0, 1) := by decide +kernel
theorem dX8_laysFirsts_178 : decode cX8_laysFirsts 178 = .ok (.getfield 105, 3) := by decide +kernel
theorem dX8_laysFirsts_181 : decode cX8_laysFirsts 181 = .ok (.if_icmp .ge 50, 3) := by decide +kernel
theorem dX8_laysFirsts_184 : decode cX8_laysFirsts 184 = .ok (.aload_n 0, 1) := by decide +kernel
theorem dX8_laysFirsts_185 : decode cX8_laysFirsts 185 = .ok (.iload 5, 2) := by decide +kernel
theorem dX8_laysFirsts_187 : decode cX8_laysFirsts 187 = .ok (.invokevirtual 127, 3) := by decide +kernel
theorem dX8_laysFirsts_190 : decode cX8_laysFirsts 190 = .ok (.ifCond .eq 35, 3) := by decide +kernel
theorem dX8_laysFirsts_193 : decode cX8_laysFirsts 193 = .ok (.aload_n 0, 1) := by decide +kernel
theorem dX8_laysFirsts_194 : decode cX8_laysFirsts 194 = .ok (.getfield 17, 3) := by decide +kernel
theorem dX8_laysFirsts_197 : decode cX8_laysFirsts 197 = .ok (.iload 5, 2) := by decide +kernel
theorem dX8_laysFirsts_199 : decode cX8_laysFirsts 199 = .ok (.iaload, 1) := by decide +kernel
theorem dX8_laysFirsts_200 : decode cX8_laysFirsts 200 = .ok (.iload_n 3, 1) := by decide +kernel
theorem dX8_laysFirsts_201 : decode cX8_laysFirsts 201 = .ok (.if_icmp .ne 24, 3) := by decide +kernel
theorem dX8_laysFirsts_204 : decode cX8_laysFirsts 204 = .ok (.aload_n 0, 1) := by decide +kernel
theorem dX8_laysFirsts_205 : decode cX8_laysFirsts 205 = .ok (.aload_n 0, 1) := by decide +kernel
theorem dX8_laysFirsts_206 : decode cX8_laysFirsts 206 = .ok (.getfield 13, 3) := by decide +kernel
theorem dX8_laysFirsts_209 : decode cX8_laysFirsts 209 = .ok (.iload 5, 2) := by decide +kernel
theorem dX8_laysFirsts_211 : decode cX8_laysFirsts 211 = .ok (.iaload, 1) := by decide +kernel
theorem dX8_laysFirsts_212 : decode cX8_laysFirsts 212 = .ok (.iload 4, 2) := by decide +kernel
theorem dX8_laysFirsts_214 : decode cX8_laysFirsts 214 = .ok (.aload_n 0, 1) := by decide +kernel
theorem dX8_laysFirsts_215 : decode cX8_laysFirsts 215 = .ok (.getfield 20, 3) := by decide +kernel
theorem dX8_laysFirsts_218 : decode cX8_laysFirsts 218 = .ok (.iload 5, 2) := by decide +kernel
theorem dX8_laysFirsts_220 : decode cX8_laysFirsts 220 = .ok (.iaload, 1) := by decide +kernel
theorem dX8_laysFirsts_221 : decode cX8_laysFirsts 221 = .ok (.iadd, 1) := by decide +kernel
theorem dX8_laysFirsts_222 : decode cX8_laysFirsts 222 = .ok (.invokevirtual 174, 3) := by decide +kernel
theorem dX8_laysFirsts_225 : decode cX8_laysFirsts 225 = .ok (.iinc 5 1, 3) := by decide +kernel
theorem dX8_laysFirsts_228 : decode cX8_laysFirsts 228 = .ok (.goto (-53), 3) := by decide +kernel
theorem dX8_laysFirsts_231 : decode cX8_laysFirsts 231 = .ok (.goto (-199), 3) := by decide +kernel
theorem dX8_laysFirsts_234 : decode cX8_laysFirsts 234 = .ok (.return_, 1) := by decide +kernel
theorem dX8_alike_0 : decode cX8_alike 0 = .ok (.iconst 0, 1) := by decide +kernel
theorem dX8_alike_1 : decode cX8_alike 1 = .ok (.istore_n 3, 1) := by decide +kernel
theorem dX8_alike_2 : decode cX8_alike 2 = .ok (.iconst 0, 1) := by decide +kernel
theorem dX8_alike_3 : decode cX8_alike 3 = .ok (.istore 4, 2) := by decide +kernel
theorem dX8_alike_5 : decode cX8_alike 5 = .ok (.iload 4, 2) := by decide +kernel
theorem dX8_alike_7 : decode cX8_alike 7 = .ok (.aload_n 0, 1) := by decide +kernel
theorem dX8_alike_8 : decode cX8_alike 8 = .ok (.getfield 57, 3) := by decide +kernel
theorem dX8_alike_11 : decode cX8_alike 11 = .ok (.iload_n 1, 1) := by decide +kernel
theorem dX8_alike_12 : decode cX8_alike 12 = .ok (.iaload, 1) := by decide +kernel
theorem dX8_alike_13 : decode cX8_alike 13 = .ok (.if_icmp .ge 33, 3) := by decide +kernel
theorem dX8_alike_16 : decode cX8_alike 16 = .ok (.iload_n 3, 1) := by decide +kernel
theorem dX8_alike_17 : decode cX8_alike 17 = .ok (.aload_n 0, 1) := by decide +kernel
theorem dX8_alike_18 : decode cX8_alike 18 = .ok (.getfield 54, 3) := by decide +kernel
theorem dX8_alike_21 : decode cX8_alike 21 = .ok (.bipush 50, 2) := by decide +kernel
theorem dX8_alike_23 : decode cX8_alike 23 = .ok (.iload_n 1, 1) := by decide +kernel
theorem dX8_alike_24 : decode cX8_alike 24 = .ok (.imul, 1) := by decide +kernel
theorem dX8_alike_25 : decode cX8_alike 25 = .ok (.iload 4, 2) := by decide +kernel
theorem dX8_alike_27 : decode cX8_alike 27 = .ok (.iadd, 1) := by decide +kernel
theorem dX8_alike_28 : decode cX8_alike 28 = .ok (.iaload, 1) := by decide +kernel
theorem dX8_alike_29 : decode cX8_alike 29 = .ok (.iload_n 2, 1) := by decide +kernel
theorem dX8_alike_30 : decode cX8_alike 30 = .ok (.if_icmp .ne 7, 3) := by decide +kernel
theorem dX8_alike_33 : decode cX8_alike 33 = .ok (.iconst 1, 1) := by decide +kernel
theorem dX8_alike_34 : decode cX8_alike 34 = .ok (.goto 4, 3) := by decide +kernel
theorem dX8_alike_37 : decode cX8_alike 37 = .ok (.iconst 0, 1) := by decide +kernel
theorem dX8_alike_38 : decode cX8_alike 38 = .ok (.iadd, 1) := by decide +kernel
theorem dX8_alike_39 : decode cX8_alike 39 = .ok (.istore_n 3, 1) := by decide +kernel
theorem dX8_alike_40 : decode cX8_alike 40 = .ok (.iinc 4 1, 3) := by decide +kernel
theorem dX8_alike_43 : decode cX8_alike 43 = .ok (.goto (-38), 3) := by decide +kernel
theorem dX8_alike_46 : decode cX8_alike 46 = .ok (.iload_n 3, 1) := by decide +kernel
theorem dX8_alike_47 : decode cX8_alike 47 = .ok (.ireturn, 1) := by decide +kernel
theorem dX8_startWalks_0 : decode cX8_startWalks 0 = .ok (.aload_n 0, 1) := by decide +kernel
theorem dX8_startWalks_1 : decode cX8_startWalks 1 = .ok (.aload_n 0, 1) := by decide +kernel
theorem dX8_startWalks_2 : decode cX8_startWalks 2 = .ok (.iload_n 1, 1) := by decide +kernel
theorem dX8_startWalks_3 : decode cX8_startWalks 3 = .ok (.iload_n 2, 1) := by decide +kernel
theorem dX8_startWalks_4 : decode cX8_startWalks 4 = .ok (.invokevirtual 101, 3) := by decide +kernel
theorem dX8_startWalks_7 : decode cX8_startWalks 7 = .ok (.ifCond .eq 7, 3) := by decide +kernel
theorem dX8_startWalks_10 : decode cX8_startWalks 10 = .ok (.iconst 0, 1) := by decide +kernel
theorem dX8_startWalks_11 : decode cX8_startWalks 11 = .ok (.goto 4, 3) := by decide +kernel
theorem dX8_startWalks_14 : decode cX8_startWalks 14 = .ok (.iconst 1, 1) := by decide +kernel
theorem dX8_startWalks_15 : decode cX8_startWalks 15 = .ok (.invokevirtual 115, 3) := by decide +kernel
theorem dX8_startWalks_18 : decode cX8_startWalks 18 = .ok (.ifCond .eq 33, 3) := by decide +kernel
theorem dX8_startWalks_21 : decode cX8_startWalks 21 = .ok (.aload_n 0, 1) := by decide +kernel
theorem dX8_startWalks_22 : decode cX8_startWalks 22 = .ok (.iconst 1, 1) := by decide +kernel
theorem dX8_startWalks_23 : decode cX8_startWalks 23 = .ok (.putfield 112, 3) := by decide +kernel
theorem dX8_startWalks_26 : decode cX8_startWalks 26 = .ok (.aload_n 0, 1) := by decide +kernel
theorem dX8_startWalks_27 : decode cX8_startWalks 27 = .ok (.iload_n 1, 1) := by decide +kernel
theorem dX8_startWalks_28 : decode cX8_startWalks 28 = .ok (.putfield 177, 3) := by decide +kernel
theorem dX8_startWalks_31 : decode cX8_startWalks 31 = .ok (.aload_n 0, 1) := by decide +kernel
theorem dX8_startWalks_32 : decode cX8_startWalks 32 = .ok (.iload_n 2, 1) := by decide +kernel
theorem dX8_startWalks_33 : decode cX8_startWalks 33 = .ok (.putfield 180, 3) := by decide +kernel
theorem dX8_startWalks_36 : decode cX8_startWalks 36 = .ok (.aload_n 0, 1) := by decide +kernel
theorem dX8_startWalks_37 : decode cX8_startWalks 37 = .ok (.iconst 0, 1) := by decide +kernel
theorem dX8_startWalks_38 : decode cX8_startWalks 38 = .ok (.putfield 183, 3) := by decide +kernel
theorem dX8_startWalks_41 : decode cX8_startWalks 41 = .ok (.aload_n 0, 1) := by decide +kernel
theorem dX8_startWalks_42 : decode cX8_startWalks 42 = .ok (.iconst 0, 1) := by decide +kernel
theorem dX8_startWalks_43 : decode cX8_startWalks 43 = .ok (.putfield 186, 3) := by decide +kernel
theorem dX8_startWalks_46 : decode cX8_startWalks 46 = .ok (.aload_n 0, 1) := by decide +kernel
theorem dX8_startWalks_47 : decode cX8_startWalks 47 = .ok (.iload_n 2, 1) := by decide +kernel
theorem dX8_startWalks_48 : decode cX8_startWalks 48 = .ok (.invokevirtual 189, 3) := by decide +kernel
theorem dX8_startWalks_51 : decode cX8_startWalks 51 = .ok (.return_, 1) := by decide +kernel
theorem dX8_laysWalk_0 : decode cX8_laysWalk 0 = .ok (.aload_n 0, 1) := by decide +kernel
theorem dX8_laysWalk_1 : decode cX8_laysWalk 1 = .ok (.getfield 177, 3) := by decide +kernel
theorem dX8_laysWalk_4 : decode cX8_laysWalk 4 = .ok (.istore_n 3, 1) := by decide +kernel
theorem dX8_laysWalk_5 : decode cX8_laysWalk 5 = .ok (.iload_n 1, 1) := by decide +kernel
theorem dX8_laysWalk_6 : decode cX8_laysWalk 6 = .ok (.istore 4, 2) := by decide +kernel
theorem dX8_laysWalk_8 : decode cX8_laysWalk 8 = .ok (.iload_n 2, 1) := by decide +kernel
theorem dX8_laysWalk_9 : decode cX8_laysWalk 9 = .ok (.istore 5, 2) := by decide +kernel
theorem dX8_laysWalk_11 : decode cX8_laysWalk 11 = .ok (.aload_n 0, 1) := by decide +kernel
theorem dX8_laysWalk_12 : decode cX8_laysWalk 12 = .ok (.iconst 0, 1) := by decide +kernel
theorem dX8_laysWalk_13 : decode cX8_laysWalk 13 = .ok (.putfield 186, 3) := by decide +kernel
theorem dX8_laysWalk_16 : decode cX8_laysWalk 16 = .ok (.iload 4, 2) := by decide +kernel
theorem dX8_laysWalk_18 : decode cX8_laysWalk 18 = .ok (.ifCond .le 92, 3) := by decide +kernel
theorem dX8_laysWalk_21 : decode cX8_laysWalk 21 = .ok (.iconst 0, 1) := by decide +kernel
theorem dX8_laysWalk_22 : decode cX8_laysWalk 22 = .ok (.istore 6, 2) := by decide +kernel
theorem dX8_laysWalk_24 : decode cX8_laysWalk 24 = .ok (.aload_n 0, 1) := by decide +kernel
theorem dX8_laysWalk_25 : decode cX8_laysWalk 25 = .ok (.iload 6, 2) := by decide +kernel
theorem dX8_laysWalk_27 : decode cX8_laysWalk 27 = .ok (.iload_n 3, 1) := by decide +kernel
theorem dX8_laysWalk_28 : decode cX8_laysWalk 28 = .ok (.iload 4, 2) := by decide +kernel
theorem dX8_laysWalk_30 : decode cX8_laysWalk 30 = .ok (.invokevirtual 193, 3) := by decide +kernel
theorem dX8_laysWalk_33 : decode cX8_laysWalk 33 = .ok (.istore 7, 2) := by decide +kernel
theorem dX8_laysWalk_35 : decode cX8_laysWalk 35 = .ok (.iload 7, 2) := by decide +kernel
theorem dX8_laysWalk_37 : decode cX8_laysWalk 37 = .ok (.iload 5, 2) := by decide +kernel
theorem dX8_laysWalk_39 : decode cX8_laysWalk 39 = .ok (.if_icmp .gt 27, 3) := by decide +kernel
theorem dX8_laysWalk_42 : decode cX8_laysWalk 42 = .ok (.iload 5, 2) := by decide +kernel
theorem dX8_laysWalk_44 : decode cX8_laysWalk 44 = .ok (.iload 7, 2) := by decide +kernel
theorem dX8_laysWalk_46 : decode cX8_laysWalk 46 = .ok (.isub, 1) := by decide +kernel
theorem dX8_laysWalk_47 : decode cX8_laysWalk 47 = .ok (.istore 5, 2) := by decide +kernel
theorem dX8_laysWalk_49 : decode cX8_laysWalk 49 = .ok (.iinc 6 1, 3) := by decide +kernel
theorem dX8_laysWalk_52 : decode cX8_laysWalk 52 = .ok (.aload_n 0, 1) := by decide +kernel
theorem dX8_laysWalk_53 : decode cX8_laysWalk 53 = .ok (.iload 6, 2) := by decide +kernel
theorem dX8_laysWalk_55 : decode cX8_laysWalk 55 = .ok (.iload_n 3, 1) := by decide +kernel
theorem dX8_laysWalk_56 : decode cX8_laysWalk 56 = .ok (.iload 4, 2) := by decide +kernel
theorem dX8_laysWalk_58 : decode cX8_laysWalk 58 = .ok (.invokevirtual 193, 3) := by decide +kernel
theorem dX8_laysWalk_61 : decode cX8_laysWalk 61 = .ok (.istore 7, 2) := by decide +kernel
theorem dX8_laysWalk_63 : decode cX8_laysWalk 63 = .ok (.goto (-28), 3) := by decide +kernel
theorem dX8_laysWalk_66 : decode cX8_laysWalk 66 = .ok (.aload_n 0, 1) := by decide +kernel
theorem dX8_laysWalk_67 : decode cX8_laysWalk 67 = .ok (.getfield 51, 3) := by decide +kernel
theorem dX8_laysWalk_70 : decode cX8_laysWalk 70 = .ok (.aload_n 0, 1) := by decide +kernel
theorem dX8_laysWalk_71 : decode cX8_laysWalk 71 = .ok (.getfield 186, 3) := by decide +kernel
theorem dX8_laysWalk_74 : decode cX8_laysWalk 74 = .ok (.iload 6, 2) := by decide +kernel
theorem dX8_laysWalk_76 : decode cX8_laysWalk 76 = .ok (.iastore, 1) := by decide +kernel
theorem dX8_laysWalk_77 : decode cX8_laysWalk 77 = .ok (.aload_n 0, 1) := by decide +kernel
theorem dX8_laysWalk_78 : decode cX8_laysWalk 78 = .ok (.dup, 1) := by decide +kernel
theorem dX8_laysWalk_79 : decode cX8_laysWalk 79 = .ok (.getfield 186, 3) := by decide +kernel
theorem dX8_laysWalk_82 : decode cX8_laysWalk 82 = .ok (.iconst 1, 1) := by decide +kernel
theorem dX8_laysWalk_83 : decode cX8_laysWalk 83 = .ok (.iadd, 1) := by decide +kernel
theorem dX8_laysWalk_84 : decode cX8_laysWalk 84 = .ok (.putfield 186, 3) := by decide +kernel
theorem dX8_laysWalk_87 : decode cX8_laysWalk 87 = .ok (.iload 4, 2) := by decide +kernel
theorem dX8_laysWalk_89 : decode cX8_laysWalk 89 = .ok (.aload_n 0, 1) := by decide +kernel
theorem dX8_laysWalk_90 : decode cX8_laysWalk 90 = .ok (.getfield 20, 3) := by decide +kernel
theorem dX8_laysWalk_93 : decode cX8_laysWalk 93 = .ok (.iload 6, 2) := by decide +kernel
theorem dX8_laysWalk_95 : decode cX8_laysWalk 95 = .ok (.iaload, 1) := by decide +kernel
theorem dX8_laysWalk_96 : decode cX8_laysWalk 96 = .ok (.isub, 1) := by decide +kernel
theorem dX8_laysWalk_97 : decode cX8_laysWalk 97 = .ok (.istore 4, 2) := by decide +kernel
theorem dX8_laysWalk_99 : decode cX8_laysWalk 99 = .ok (.aload_n 0, 1) := by decide +kernel
theorem dX8_laysWalk_100 : decode cX8_laysWalk 100 = .ok (.getfield 17, 3) := by decide +kernel
theorem dX8_laysWalk_103 : decode cX8_laysWalk 103 = .ok (.iload 6, 2) := by decide +kernel
theorem dX8_laysWalk_105 : decode cX8_laysWalk 105 = .ok (.iaload, 1) := by decide +kernel
theorem dX8_laysWalk_106 : decode cX8_laysWalk 106 = .ok (.istore_n 3, 1) := by decide +kernel
theorem dX8_laysWalk_107 : decode cX8_laysWalk 107 = .ok (.goto (-91), 3) := by decide +kernel
theorem dX8_laysWalk_110 : decode cX8_laysWalk 110 = .ok (.return_, 1) := by decide +kernel
theorem dX8_leads_0 : decode cX8_leads 0 = .ok (.aload_n 0, 1) := by decide +kernel
theorem dX8_leads_1 : decode cX8_leads 1 = .ok (.iload_n 1, 1) := by decide +kernel
theorem dX8_leads_2 : decode cX8_leads 2 = .ok (.invokevirtual 127, 3) := by decide +kernel
theorem dX8_leads_5 : decode cX8_leads 5 = .ok (.ifCond .eq 34, 3) := by decide +kernel
theorem dX8_leads_8 : decode cX8_leads 8 = .ok (.aload_n 0, 1) := by decide +kernel
theorem dX8_leads_9 : decode cX8_leads 9 = .ok (.getfield 13, 3) := by decide +kernel
theorem dX8_leads_12 : decode cX8_leads 12 = .ok (.iload_n 1, 1) := by decide +kernel
theorem dX8_leads_13 : decode cX8_leads 13 = .ok (.iaload, 1) := by decide +kernel
theorem dX8_leads_14 : decode cX8_leads 14 = .ok (.iload_n 2, 1) := by decide +kernel
theorem dX8_leads_15 : decode cX8_leads 15 = .ok (.if_icmp .ne 24, 3) := by decide +kernel
theorem dX8_leads_18 : decode cX8_leads 18 = .ok (.aload_n 0, 1) := by decide +kernel
theorem dX8_leads_19 : decode cX8_leads 19 = .ok (.aload_n 0, 1) := by decide +kernel
theorem dX8_leads_20 : decode cX8_leads 20 = .ok (.getfield 17, 3) := by decide +kernel
theorem dX8_leads_23 : decode cX8_leads 23 = .ok (.iload_n 1, 1) := by decide +kernel
theorem dX8_leads_24 : decode cX8_leads 24 = .ok (.iaload, 1) := by decide +kernel
theorem dX8_leads_25 : decode cX8_leads 25 = .ok (.iload_n 3, 1) := by decide +kernel
theorem dX8_leads_26 : decode cX8_leads 26 = .ok (.aload_n 0, 1) := by decide +kernel
theorem dX8_leads_27 : decode cX8_leads 27 = .ok (.getfield 20, 3) := by decide +kernel
theorem dX8_leads_30 : decode cX8_leads 30 = .ok (.iload_n 1, 1) := by decide +kernel
theorem dX8_leads_31 : decode cX8_leads 31 = .ok (.iaload, 1) := by decide +kernel
theorem dX8_leads_32 : decode cX8_leads 32 = .ok (.isub, 1) := by decide +kernel
theorem dX8_leads_33 : decode cX8_leads 33 = .ok (.invokevirtual 197, 3) := by decide +kernel
theorem dX8_leads_36 : decode cX8_leads 36 = .ok (.goto 4, 3) := by decide +kernel
theorem dX8_leads_39 : decode cX8_leads 39 = .ok (.iconst 0, 1) := by decide +kernel
theorem dX8_leads_40 : decode cX8_leads 40 = .ok (.ireturn, 1) := by decide +kernel
theorem dX8_nextWalk_0 : decode cX8_nextWalk 0 = .ok (.aload_n 0, 1) := by decide +kernel
theorem dX8_nextWalk_1 : decode cX8_nextWalk 1 = .ok (.aload_n 0, 1) := by decide +kernel
theorem dX8_nextWalk_2 : decode cX8_nextWalk 2 = .ok (.getfield 112, 3) := by decide +kernel
theorem dX8_nextWalk_5 : decode cX8_nextWalk 5 = .ok (.ifCond .eq 12, 3) := by decide +kernel
theorem dX8_nextWalk_8 : decode cX8_nextWalk 8 = .ok (.aload_n 0, 1) := by decide +kernel
theorem dX8_nextWalk_9 : decode cX8_nextWalk 9 = .ok (.getfield 183, 3) := by decide +kernel
theorem dX8_nextWalk_12 : decode cX8_nextWalk 12 = .ok (.bipush 50, 2) := by decide +kernel
theorem dX8_nextWalk_14 : decode cX8_nextWalk 14 = .ok (.if_icmp .ne 7, 3) := by decide +kernel
theorem dX8_nextWalk_17 : decode cX8_nextWalk 17 = .ok (.iconst 1, 1) := by decide +kernel
theorem dX8_nextWalk_18 : decode cX8_nextWalk 18 = .ok (.goto 24, 3) := by decide +kernel
theorem dX8_nextWalk_21 : decode cX8_nextWalk 21 = .ok (.aload_n 0, 1) := by decide +kernel
theorem dX8_nextWalk_22 : decode cX8_nextWalk 22 = .ok (.getfield 183, 3) := by decide +kernel
theorem dX8_nextWalk_25 : decode cX8_nextWalk 25 = .ok (.aload_n 0, 1) := by decide +kernel
theorem dX8_nextWalk_26 : decode cX8_nextWalk 26 = .ok (.getfield 57, 3) := by decide +kernel
theorem dX8_nextWalk_29 : decode cX8_nextWalk 29 = .ok (.aload_n 0, 1) := by decide +kernel
theorem dX8_nextWalk_30 : decode cX8_nextWalk 30 = .ok (.getfield 177, 3) := by decide +kernel
theorem dX8_nextWalk_33 : decode cX8_nextWalk 33 = .ok (.iaload, 1) := by decide +kernel
theorem dX8_nextWalk_34 : decode cX8_nextWalk 34 = .ok (.if_icmp .ne 7, 3) := by decide +kernel
theorem dX8_nextWalk_37 : decode cX8_nextWalk 37 = .ok (.iconst 2, 1) := by decide +kernel
theorem dX8_nextWalk_38 : decode cX8_nextWalk 38 = .ok (.goto 4, 3) := by decide +kernel
theorem dX8_nextWalk_41 : decode cX8_nextWalk 41 = .ok (.iconst 0, 1) := by decide +kernel
theorem dX8_nextWalk_42 : decode cX8_nextWalk 42 = .ok (.invokevirtual 115, 3) := by decide +kernel
theorem dX8_nextWalk_45 : decode cX8_nextWalk 45 = .ok (.ifCond .ne 5, 3) := by decide +kernel
theorem dX8_nextWalk_48 : decode cX8_nextWalk 48 = .ok (.iconst 0, 1) := by decide +kernel
theorem dX8_nextWalk_49 : decode cX8_nextWalk 49 = .ok (.ireturn, 1) := by decide +kernel
theorem dX8_nextWalk_50 : decode cX8_nextWalk 50 = .ok (.aload_n 0, 1) := by decide +kernel
theorem dX8_nextWalk_51 : decode cX8_nextWalk 51 = .ok (.getfield 54, 3) := by decide +kernel
theorem dX8_nextWalk_54 : decode cX8_nextWalk 54 = .ok (.bipush 50, 2) := by decide +kernel
theorem dX8_nextWalk_56 : decode cX8_nextWalk 56 = .ok (.aload_n 0, 1) := by decide +kernel
theorem dX8_nextWalk_57 : decode cX8_nextWalk 57 = .ok (.getfield 177, 3) := by decide +kernel
theorem dX8_nextWalk_60 : decode cX8_nextWalk 60 = .ok (.imul, 1) := by decide +kernel
theorem dX8_nextWalk_61 : decode cX8_nextWalk 61 = .ok (.aload_n 0, 1) := by decide +kernel
theorem dX8_nextWalk_62 : decode cX8_nextWalk 62 = .ok (.getfield 183, 3) := by decide +kernel
theorem dX8_nextWalk_65 : decode cX8_nextWalk 65 = .ok (.iadd, 1) := by decide +kernel
theorem dX8_nextWalk_66 : decode cX8_nextWalk 66 = .ok (.iaload, 1) := by decide +kernel
theorem dX8_nextWalk_67 : decode cX8_nextWalk 67 = .ok (.istore_n 1, 1) := by decide +kernel
theorem dX8_nextWalk_68 : decode cX8_nextWalk 68 = .ok (.iconst 0, 1) := by decide +kernel
theorem dX8_nextWalk_69 : decode cX8_nextWalk 69 = .ok (.istore_n 2, 1) := by decide +kernel
theorem dX8_nextWalk_70 : decode cX8_nextWalk 70 = .ok (.iconst 0, 1) := by decide +kernel
theorem dX8_nextWalk_71 : decode cX8_nextWalk 71 = .ok (.istore_n 3, 1) := by decide +kernel
theorem dX8_nextWalk_72 : decode cX8_nextWalk 72 = .ok (.iload_n 3, 1) := by decide +kernel
theorem dX8_nextWalk_73 : decode cX8_nextWalk 73 = .ok (.aload_n 0, 1) := by decide +kernel
theorem dX8_nextWalk_74 : decode cX8_nextWalk 74 = .ok (.getfield 183, 3) := by decide +kernel
theorem dX8_nextWalk_77 : decode cX8_nextWalk 77 = .ok (.if_icmp .ge 35, 3) := by decide +kernel
theorem dX8_nextWalk_80 : decode cX8_nextWalk 80 = .ok (.iload_n 2, 1) := by decide +kernel
theorem dX8_nextWalk_81 : decode cX8_nextWalk 81 = .ok (.aload_n 0, 1) := by decide +kernel
theorem dX8_nextWalk_82 : decode cX8_nextWalk 82 = .ok (.getfield 54, 3) := by decide +kernel
theorem dX8_nextWalk_85 : decode cX8_nextWalk 85 = .ok (.bipush 50, 2) := by decide +kernel
theorem dX8_nextWalk_87 : decode cX8_nextWalk 87 = .ok (.aload_n 0, 1) := by decide +kernel
theorem dX8_nextWalk_88 : decode cX8_nextWalk 88 = .ok (.getfield 177, 3) := by decide +kernel
theorem dX8_nextWalk_91 : decode cX8_nextWalk 91 = .ok (.imul, 1) := by decide +kernel
theorem dX8_nextWalk_92 : decode cX8_nextWalk 92 = .ok (.iload_n 3, 1) := by decide +kernel
theorem dX8_nextWalk_93 : decode cX8_nextWalk 93 = .ok (.iadd, 1) := by decide +kernel
theorem dX8_nextWalk_94 : decode cX8_nextWalk 94 = .ok (.iaload, 1) := by decide +kernel
theorem dX8_nextWalk_95 : decode cX8_nextWalk 95 = .ok (.iload_n 1, 1) := by decide +kernel
theorem dX8_nextWalk_96 : decode cX8_nextWalk 96 = .ok (.if_icmp .ne 7, 3) := by decide +kernel
theorem dX8_nextWalk_99 : decode cX8_nextWalk 99 = .ok (.iconst 1, 1) := by decide +kernel
theorem dX8_nextWalk_100 : decode cX8_nextWalk 100 = .ok (.goto 4, 3) := by decide +kernel
theorem dX8_nextWalk_103 : decode cX8_nextWalk 103 = .ok (.iconst 0, 1) := by decide +kernel
theorem dX8_nextWalk_104 : decode cX8_nextWalk 104 = .ok (.iadd, 1) := by decide +kernel
theorem dX8_nextWalk_105 : decode cX8_nextWalk 105 = .ok (.istore_n 2, 1) := by decide +kernel
theorem dX8_nextWalk_106 : decode cX8_nextWalk 106 = .ok (.iinc 3 1, 3) := by decide +kernel
theorem dX8_nextWalk_109 : decode cX8_nextWalk 109 = .ok (.goto (-37), 3) := by decide +kernel
theorem dX8_nextWalk_112 : decode cX8_nextWalk 112 = .ok (.aload_n 0, 1) := by decide +kernel
theorem dX8_nextWalk_113 : decode cX8_nextWalk 113 = .ok (.iload_n 1, 1) := by decide +kernel
theorem dX8_nextWalk_114 : decode cX8_nextWalk 114 = .ok (.iload_n 2, 1) := by decide +kernel
theorem dX8_nextWalk_115 : decode cX8_nextWalk 115 = .ok (.invokevirtual 200, 3) := by decide +kernel
theorem dX8_nextWalk_118 : decode cX8_nextWalk 118 = .ok (.aload_n 0, 1) := by decide +kernel
theorem dX8_nextWalk_119 : decode cX8_nextWalk 119 = .ok (.dup, 1) := by decide +kernel
theorem dX8_nextWalk_120 : decode cX8_nextWalk 120 = .ok (.getfield 183, 3) := by decide +kernel
theorem dX8_nextWalk_123 : decode cX8_nextWalk 123 = .ok (.iconst 1, 1) := by decide +kernel
theorem dX8_nextWalk_124 : decode cX8_nextWalk 124 = .ok (.iadd, 1) := by decide +kernel
theorem dX8_nextWalk_125 : decode cX8_nextWalk 125 = .ok (.putfield 183, 3) := by decide +kernel
theorem dX8_nextWalk_128 : decode cX8_nextWalk 128 = .ok (.iload_n 1, 1) := by decide +kernel
theorem dX8_nextWalk_129 : decode cX8_nextWalk 129 = .ok (.ireturn, 1) := by decide +kernel
theorem dX8_walksDrawn_0 : decode cX8_walksDrawn 0 = .ok (.aload_n 0, 1) := by decide +kernel
theorem dX8_walksDrawn_1 : decode cX8_walksDrawn 1 = .ok (.aload_n 0, 1) := by decide +kernel
theorem dX8_walksDrawn_2 : decode cX8_walksDrawn 2 = .ok (.getfield 112, 3) := by decide +kernel
theorem dX8_walksDrawn_5 : decode cX8_walksDrawn 5 = .ok (.ifCond .eq 7, 3) := by decide +kernel
theorem dX8_walksDrawn_8 : decode cX8_walksDrawn 8 = .ok (.iconst 0, 1) := by decide +kernel
theorem dX8_walksDrawn_9 : decode cX8_walksDrawn 9 = .ok (.goto 4, 3) := by decide +kernel
theorem dX8_walksDrawn_12 : decode cX8_walksDrawn 12 = .ok (.iconst 1, 1) := by decide +kernel
theorem dX8_walksDrawn_13 : decode cX8_walksDrawn 13 = .ok (.invokevirtual 115, 3) := by decide +kernel
theorem dX8_walksDrawn_16 : decode cX8_walksDrawn 16 = .ok (.ifCond .eq 10, 3) := by decide +kernel
theorem dX8_walksDrawn_19 : decode cX8_walksDrawn 19 = .ok (.aload_n 0, 1) := by decide +kernel
theorem dX8_walksDrawn_20 : decode cX8_walksDrawn 20 = .ok (.getfield 183, 3) := by decide +kernel
theorem dX8_walksDrawn_23 : decode cX8_walksDrawn 23 = .ok (.goto 4, 3) := by decide +kernel
theorem dX8_walksDrawn_26 : decode cX8_walksDrawn 26 = .ok (.iconst 0, 1) := by decide +kernel
theorem dX8_walksDrawn_27 : decode cX8_walksDrawn 27 = .ok (.ireturn, 1) := by decide +kernel
theorem dX8_walkEdges_0 : decode cX8_walkEdges 0 = .ok (.aload_n 0, 1) := by decide +kernel
theorem dX8_walkEdges_1 : decode cX8_walkEdges 1 = .ok (.aload_n 0, 1) := by decide +kernel
theorem dX8_walkEdges_2 : decode cX8_walkEdges 2 = .ok (.getfield 112, 3) := by decide +kernel
theorem dX8_walkEdges_5 : decode cX8_walkEdges 5 = .ok (.ifCond .ne 7, 3) := by decide +kernel
theorem dX8_walkEdges_8 : decode cX8_walkEdges 8 = .ok (.iconst 1, 1) := by decide +kernel
theorem dX8_walkEdges_9 : decode cX8_walkEdges 9 = .ok (.goto 15, 3) := by decide +kernel
theorem dX8_walkEdges_12 : decode cX8_walkEdges 12 = .ok (.aload_n 0, 1) := by decide +kernel
theorem dX8_walkEdges_13 : decode cX8_walkEdges 13 = .ok (.getfield 183, 3) := by decide +kernel
theorem dX8_walkEdges_16 : decode cX8_walkEdges 16 = .ok (.ifCond .ne 7, 3) := by decide +kernel
theorem dX8_walkEdges_19 : decode cX8_walkEdges 19 = .ok (.iconst 2, 1) := by decide +kernel
theorem dX8_walkEdges_20 : decode cX8_walkEdges 20 = .ok (.goto 4, 3) := by decide +kernel
theorem dX8_walkEdges_23 : decode cX8_walkEdges 23 = .ok (.iconst 0, 1) := by decide +kernel
theorem dX8_walkEdges_24 : decode cX8_walkEdges 24 = .ok (.invokevirtual 115, 3) := by decide +kernel
theorem dX8_walkEdges_27 : decode cX8_walkEdges 27 = .ok (.ifCond .eq 10, 3) := by decide +kernel
theorem dX8_walkEdges_30 : decode cX8_walkEdges 30 = .ok (.aload_n 0, 1) := by decide +kernel
theorem dX8_walkEdges_31 : decode cX8_walkEdges 31 = .ok (.getfield 186, 3) := by decide +kernel
theorem dX8_walkEdges_34 : decode cX8_walkEdges 34 = .ok (.goto 4, 3) := by decide +kernel
theorem dX8_walkEdges_37 : decode cX8_walkEdges 37 = .ok (.iconst 0, 1) := by decide +kernel
theorem dX8_walkEdges_38 : decode cX8_walkEdges 38 = .ok (.ireturn, 1) := by decide +kernel
theorem dX8_walkEdge_0 : decode cX8_walkEdge 0 = .ok (.aload_n 0, 1) := by decide +kernel
theorem dX8_walkEdge_1 : decode cX8_walkEdge 1 = .ok (.aload_n 0, 1) := by decide +kernel
theorem dX8_walkEdge_2 : decode cX8_walkEdge 2 = .ok (.getfield 112, 3) := by decide +kernel
theorem dX8_walkEdge_5 : decode cX8_walkEdge 5 = .ok (.ifCond .ne 7, 3) := by decide +kernel
theorem dX8_walkEdge_8 : decode cX8_walkEdge 8 = .ok (.iconst 1, 1) := by decide +kernel
theorem dX8_walkEdge_9 : decode cX8_walkEdge 9 = .ok (.goto 22, 3) := by decide +kernel
theorem dX8_walkEdge_12 : decode cX8_walkEdge 12 = .ok (.iload_n 1, 1) := by decide +kernel
theorem dX8_walkEdge_13 : decode cX8_walkEdge 13 = .ok (.iconst 0, 1) := by decide +kernel
theorem dX8_walkEdge_14 : decode cX8_walkEdge 14 = .ok (.aload_n 0, 1) := by decide +kernel
theorem dX8_walkEdge_15 : decode cX8_walkEdge 15 = .ok (.getfield 186, 3) := by decide +kernel
theorem dX8_walkEdge_18 : decode cX8_walkEdge 18 = .ok (.iconst 1, 1) := by decide +kernel
theorem dX8_walkEdge_19 : decode cX8_walkEdge 19 = .ok (.isub, 1) := by decide +kernel
theorem dX8_walkEdge_20 : decode cX8_walkEdge 20 = .ok (.invokestatic 93, 3) := by decide +kernel
theorem dX8_walkEdge_23 : decode cX8_walkEdge 23 = .ok (.ifCond .eq 7, 3) := by decide +kernel
theorem dX8_walkEdge_26 : decode cX8_walkEdge 26 = .ok (.iconst 0, 1) := by decide +kernel
theorem dX8_walkEdge_27 : decode cX8_walkEdge 27 = .ok (.goto 4, 3) := by decide +kernel
theorem dX8_walkEdge_30 : decode cX8_walkEdge 30 = .ok (.iconst 2, 1) := by decide +kernel
theorem dX8_walkEdge_31 : decode cX8_walkEdge 31 = .ok (.invokevirtual 115, 3) := by decide +kernel
theorem dX8_walkEdge_34 : decode cX8_walkEdge 34 = .ok (.ifCond .eq 12, 3) := by decide +kernel
theorem dX8_walkEdge_37 : decode cX8_walkEdge 37 = .ok (.aload_n 0, 1) := by decide +kernel
theorem dX8_walkEdge_38 : decode cX8_walkEdge 38 = .ok (.getfield 51, 3) := by decide +kernel
theorem dX8_walkEdge_41 : decode cX8_walkEdge 41 = .ok (.iload_n 1, 1) := by decide +kernel
theorem dX8_walkEdge_42 : decode cX8_walkEdge 42 = .ok (.iaload, 1) := by decide +kernel
theorem dX8_walkEdge_43 : decode cX8_walkEdge 43 = .ok (.goto 4, 3) := by decide +kernel
theorem dX8_walkEdge_46 : decode cX8_walkEdge 46 = .ok (.iconst 0, 1) := by decide +kernel
theorem dX8_walkEdge_47 : decode cX8_walkEdge 47 = .ok (.ireturn, 1) := by decide +kernel
theorem dX8_arc_0 : decode cX8_arc 0 = .ok (.aload_n 0, 1) := by decide +kernel
theorem dX8_arc_1 : decode cX8_arc 1 = .ok (.getfield 66, 3) := by decide +kernel
theorem dX8_arc_4 : decode cX8_arc 4 = .ok (.aload_n 0, 1) := by decide +kernel
theorem dX8_arc_5 : decode cX8_arc 5 = .ok (.getfield 203, 3) := by decide +kernel
theorem dX8_arc_8 : decode cX8_arc 8 = .ok (.iload_n 1, 1) := by decide +kernel
theorem dX8_arc_9 : decode cX8_arc 9 = .ok (.iastore, 1) := by decide +kernel
theorem dX8_arc_10 : decode cX8_arc 10 = .ok (.aload_n 0, 1) := by decide +kernel
theorem dX8_arc_11 : decode cX8_arc 11 = .ok (.getfield 69, 3) := by decide +kernel
theorem dX8_arc_14 : decode cX8_arc 14 = .ok (.aload_n 0, 1) := by decide +kernel
theorem dX8_arc_15 : decode cX8_arc 15 = .ok (.getfield 203, 3) := by decide +kernel
theorem dX8_arc_18 : decode cX8_arc 18 = .ok (.iload_n 2, 1) := by decide +kernel
theorem dX8_arc_19 : decode cX8_arc 19 = .ok (.iastore, 1) := by decide +kernel
theorem dX8_arc_20 : decode cX8_arc 20 = .ok (.aload_n 0, 1) := by decide +kernel
theorem dX8_arc_21 : decode cX8_arc 21 = .ok (.getfield 72, 3) := by decide +kernel
theorem dX8_arc_24 : decode cX8_arc 24 = .ok (.aload_n 0, 1) := by decide +kernel
theorem dX8_arc_25 : decode cX8_arc 25 = .ok (.getfield 203, 3) := by decide +kernel
theorem dX8_arc_28 : decode cX8_arc 28 = .ok (.iconst 1, 1) := by decide +kernel
theorem dX8_arc_29 : decode cX8_arc 29 = .ok (.iastore, 1) := by decide +kernel
theorem dX8_arc_30 : decode cX8_arc 30 = .ok (.aload_n 0, 1) := by decide +kernel
theorem dX8_arc_31 : decode cX8_arc 31 = .ok (.getfield 75, 3) := by decide +kernel
theorem dX8_arc_34 : decode cX8_arc 34 = .ok (.aload_n 0, 1) := by decide +kernel
theorem dX8_arc_35 : decode cX8_arc 35 = .ok (.getfield 203, 3) := by decide +kernel
theorem dX8_arc_38 : decode cX8_arc 38 = .ok (.iload_n 3, 1) := by decide +kernel
theorem dX8_arc_39 : decode cX8_arc 39 = .ok (.iastore, 1) := by decide +kernel
theorem dX8_arc_40 : decode cX8_arc 40 = .ok (.aload_n 0, 1) := by decide +kernel
theorem dX8_arc_41 : decode cX8_arc 41 = .ok (.getfield 66, 3) := by decide +kernel
theorem dX8_arc_44 : decode cX8_arc 44 = .ok (.aload_n 0, 1) := by decide +kernel
theorem dX8_arc_45 : decode cX8_arc 45 = .ok (.getfield 203, 3) := by decide +kernel
theorem dX8_arc_48 : decode cX8_arc 48 = .ok (.iconst 1, 1) := by decide +kernel
theorem dX8_arc_49 : decode cX8_arc 49 = .ok (.iadd, 1) := by decide +kernel
theorem dX8_arc_50 : decode cX8_arc 50 = .ok (.iload_n 2, 1) := by decide +kernel
theorem dX8_arc_51 : decode cX8_arc 51 = .ok (.iastore, 1) := by decide +kernel
theorem dX8_arc_52 : decode cX8_arc 52 = .ok (.aload_n 0, 1) := by decide +kernel
theorem dX8_arc_53 : decode cX8_arc 53 = .ok (.getfield 69, 3) := by decide +kernel
theorem dX8_arc_56 : decode cX8_arc 56 = .ok (.aload_n 0, 1) := by decide +kernel
theorem dX8_arc_57 : decode cX8_arc 57 = .ok (.getfield 203, 3) := by decide +kernel
theorem dX8_arc_60 : decode cX8_arc 60 = .ok (.iconst 1, 1) := by decide +kernel
theorem dX8_arc_61 : decode cX8_arc 61 = .ok (.iadd, 1) := by decide +kernel
theorem dX8_arc_62 : decode cX8_arc 62 = .ok (.iload_n 1, 1) := by decide +kernel
theorem dX8_arc_63 : decode cX8_arc 63 = .ok (.iastore, 1) := by decide +kernel
theorem dX8_arc_64 : decode cX8_arc 64 = .ok (.aload_n 0, 1) := by decide +kernel
theorem dX8_arc_65 : decode cX8_arc 65 = .ok (.getfield 72, 3) := by decide +kernel
theorem dX8_arc_68 : decode cX8_arc 68 = .ok (.aload_n 0, 1) := by decide +kernel
theorem dX8_arc_69 : decode cX8_arc 69 = .ok (.getfield 203, 3) := by decide +kernel
theorem dX8_arc_72 : decode cX8_arc 72 = .ok (.iconst 1, 1) := by decide +kernel
theorem dX8_arc_73 : decode cX8_arc 73 = .ok (.iadd, 1) := by decide +kernel
theorem dX8_arc_74 : decode cX8_arc 74 = .ok (.iconst 0, 1) := by decide +kernel
theorem dX8_arc_75 : decode cX8_arc 75 = .ok (.iastore, 1) := by decide +kernel
theorem dX8_arc_76 : decode cX8_arc 76 = .ok (.aload_n 0, 1) := by decide +kernel
theorem dX8_arc_77 : decode cX8_arc 77 = .ok (.getfield 75, 3) := by decide +kernel
theorem dX8_arc_80 : decode cX8_arc 80 = .ok (.aload_n 0, 1) := by decide +kernel
theorem dX8_arc_81 : decode cX8_arc 81 = .ok (.getfield 203, 3) := by decide +kernel
theorem dX8_arc_84 : decode cX8_arc 84 = .ok (.iconst 1, 1) := by decide +kernel
theorem dX8_arc_85 : decode cX8_arc 85 = .ok (.iadd, 1) := by decide +kernel
theorem dX8_arc_86 : decode cX8_arc 86 = .ok (.iload_n 3, 1) := by decide +kernel
theorem dX8_arc_87 : decode cX8_arc 87 = .ok (.ineg, 1) := by decide +kernel
theorem dX8_arc_88 : decode cX8_arc 88 = .ok (.iastore, 1) := by decide +kernel
theorem dX8_arc_89 : decode cX8_arc 89 = .ok (.aload_n 0, 1) := by decide +kernel
theorem dX8_arc_90 : decode cX8_arc 90 = .ok (.dup, 1) := by decide +kernel
theorem dX8_arc_91 : decode cX8_arc 91 = .ok (.getfield 203, 3) := by decide +kernel
theorem dX8_arc_94 : decode cX8_arc 94 = .ok (.iconst 2, 1) := by decide +kernel
theorem dX8_arc_95 : decode cX8_arc 95 = .ok (.iadd, 1) := by decide +kernel
theorem dX8_arc_96 : decode cX8_arc 96 = .ok (.putfield 203, 3) := by decide +kernel
theorem dX8_arc_99 : decode cX8_arc 99 = .ok (.return_, 1) := by decide +kernel
theorem dX8_laysArcs_0 : decode cX8_laysArcs 0 = .ok (.aload_n 0, 1) := by decide +kernel
theorem dX8_laysArcs_1 : decode cX8_laysArcs 1 = .ok (.iconst 0, 1) := by decide +kernel
theorem dX8_laysArcs_2 : decode cX8_laysArcs 2 = .ok (.putfield 203, 3) := by decide +kernel
theorem dX8_laysArcs_5 : decode cX8_laysArcs 5 = .ok (.iconst 0, 1) := by decide +kernel
theorem dX8_laysArcs_6 : decode cX8_laysArcs 6 = .ok (.istore 4, 2) := by decide +kernel
theorem dX8_laysArcs_8 : decode cX8_laysArcs 8 = .ok (.iload 4, 2) := by decide +kernel
theorem dX8_laysArcs_10 : decode cX8_laysArcs 10 = .ok (.aload_n 0, 1) := by decide +kernel
theorem dX8_laysArcs_11 : decode cX8_laysArcs 11 = .ok (.getfield 7, 3) := by decide +kernel
theorem dX8_laysArcs_14 : decode cX8_laysArcs 14 = .ok (.if_icmp .ge 54, 3) := by decide +kernel
theorem dX8_laysArcs_17 : decode cX8_laysArcs 17 = .ok (.aload_n 0, 1) := by decide +kernel
theorem dX8_laysArcs_18 : decode cX8_laysArcs 18 = .ok (.iload 4, 2) := by decide +kernel
theorem dX8_laysArcs_20 : decode cX8_laysArcs 20 = .ok (.bipush 10, 2) := by decide +kernel
theorem dX8_laysArcs_22 : decode cX8_laysArcs 22 = .ok (.iload 4, 2) := by decide +kernel
theorem dX8_laysArcs_24 : decode cX8_laysArcs 24 = .ok (.iadd, 1) := by decide +kernel
theorem dX8_laysArcs_25 : decode cX8_laysArcs 25 = .ok (.iconst 0, 1) := by decide +kernel
theorem dX8_laysArcs_26 : decode cX8_laysArcs 26 = .ok (.invokevirtual 206, 3) := by decide +kernel
theorem dX8_laysArcs_29 : decode cX8_laysArcs 29 = .ok (.aload_n 0, 1) := by decide +kernel
theorem dX8_laysArcs_30 : decode cX8_laysArcs 30 = .ok (.getfield 72, 3) := by decide +kernel
theorem dX8_laysArcs_33 : decode cX8_laysArcs 33 = .ok (.aload_n 0, 1) := by decide +kernel
theorem dX8_laysArcs_34 : decode cX8_laysArcs 34 = .ok (.getfield 203, 3) := by decide +kernel
theorem dX8_laysArcs_37 : decode cX8_laysArcs 37 = .ok (.iconst 2, 1) := by decide +kernel
theorem dX8_laysArcs_38 : decode cX8_laysArcs 38 = .ok (.isub, 1) := by decide +kernel
theorem dX8_laysArcs_39 : decode cX8_laysArcs 39 = .ok (.iload_n 3, 1) := by decide +kernel
theorem dX8_laysArcs_40 : decode cX8_laysArcs 40 = .ok (.ifCond .eq 15, 3) := by decide +kernel
theorem dX8_laysArcs_43 : decode cX8_laysArcs 43 = .ok (.iload 4, 2) := by decide +kernel
theorem dX8_laysArcs_45 : decode cX8_laysArcs 45 = .ok (.iload_n 1, 1) := by decide +kernel
theorem dX8_laysArcs_46 : decode cX8_laysArcs 46 = .ok (.if_icmp .eq 9, 3) := by decide +kernel
theorem dX8_laysArcs_49 : decode cX8_laysArcs 49 = .ok (.iload 4, 2) := by decide +kernel
theorem dX8_laysArcs_51 : decode cX8_laysArcs 51 = .ok (.iload_n 2, 1) := by decide +kernel
theorem dX8_laysArcs_52 : decode cX8_laysArcs 52 = .ok (.if_icmp .ne 8, 3) := by decide +kernel
theorem dX8_laysArcs_55 : decode cX8_laysArcs 55 = .ok (.bipush 24, 2) := by decide +kernel
theorem dX8_laysArcs_57 : decode cX8_laysArcs 57 = .ok (.goto 4, 3) := by decide +kernel
theorem dX8_laysArcs_60 : decode cX8_laysArcs 60 = .ok (.iconst 1, 1) := by decide +kernel
theorem dX8_laysArcs_61 : decode cX8_laysArcs 61 = .ok (.iastore, 1) := by decide +kernel
theorem dX8_laysArcs_62 : decode cX8_laysArcs 62 = .ok (.iinc 4 1, 3) := by decide +kernel
theorem dX8_laysArcs_65 : decode cX8_laysArcs 65 = .ok (.goto (-57), 3) := by decide +kernel
theorem dX8_laysArcs_68 : decode cX8_laysArcs 68 = .ok (.iconst 0, 1) := by decide +kernel
theorem dX8_laysArcs_69 : decode cX8_laysArcs 69 = .ok (.istore 4, 2) := by decide +kernel
theorem dX8_laysArcs_71 : decode cX8_laysArcs 71 = .ok (.iload 4, 2) := by decide +kernel
theorem dX8_laysArcs_73 : decode cX8_laysArcs 73 = .ok (.aload_n 0, 1) := by decide +kernel
theorem dX8_laysArcs_74 : decode cX8_laysArcs 74 = .ok (.getfield 105, 3) := by decide +kernel
theorem dX8_laysArcs_77 : decode cX8_laysArcs 77 = .ok (.if_icmp .ge 46, 3) := by decide +kernel
theorem dX8_laysArcs_80 : decode cX8_laysArcs 80 = .ok (.aload_n 0, 1) := by decide +kernel
theorem dX8_laysArcs_81 : decode cX8_laysArcs 81 = .ok (.iload 4, 2) := by decide +kernel
theorem dX8_laysArcs_83 : decode cX8_laysArcs 83 = .ok (.invokevirtual 127, 3) := by decide +kernel
theorem dX8_laysArcs_86 : decode cX8_laysArcs 86 = .ok (.ifCond .eq 31, 3) := by decide +kernel
theorem dX8_laysArcs_89 : decode cX8_laysArcs 89 = .ok (.aload_n 0, 1) := by decide +kernel
theorem dX8_laysArcs_90 : decode cX8_laysArcs 90 = .ok (.bipush 10, 2) := by decide +kernel
theorem dX8_laysArcs_92 : decode cX8_laysArcs 92 = .ok (.aload_n 0, 1) := by decide +kernel
theorem dX8_laysArcs_93 : decode cX8_laysArcs 93 = .ok (.getfield 13, 3) := by decide +kernel
theorem dX8_laysArcs_96 : decode cX8_laysArcs 96 = .ok (.iload 4, 2) := by decide +kernel
theorem dX8_laysArcs_98 : decode cX8_laysArcs 98 = .ok (.iaload, 1) := by decide +kernel
theorem dX8_laysArcs_99 : decode cX8_laysArcs 99 = .ok (.iadd, 1) := by decide +kernel
theorem dX8_laysArcs_100 : decode cX8_laysArcs 100 = .ok (.aload_n 0, 1) := by decide +kernel
theorem dX8_laysArcs_101 : decode cX8_laysArcs 101 = .ok (.getfield 17, 3) := by decide +kernel
theorem dX8_laysArcs_104 : decode cX8_laysArcs 104 = .ok (.iload 4, 2) := by decide +kernel
theorem dX8_laysArcs_106 : decode cX8_laysArcs 106 = .ok (.iaload, 1) := by decide +kernel
theorem dX8_laysArcs_107 : decode cX8_laysArcs 107 = .ok (.aload_n 0, 1) := by decide +kernel
theorem dX8_laysArcs_108 : decode cX8_laysArcs 108 = .ok (.getfield 20, 3) := by decide +kernel
theorem dX8_laysArcs_111 : decode cX8_laysArcs 111 = .ok (.iload 4, 2) := by decide +kernel
theorem dX8_laysArcs_113 : decode cX8_laysArcs 113 = .ok (.iaload, 1) := by decide +kernel
theorem dX8_laysArcs_114 : decode cX8_laysArcs 114 = .ok (.invokevirtual 206, 3) := by decide +kernel
theorem dX8_laysArcs_117 : decode cX8_laysArcs 117 = .ok (.iinc 4 1, 3) := by decide +kernel
theorem dX8_laysArcs_120 : decode cX8_laysArcs 120 = .ok (.goto (-49), 3) := by decide +kernel
theorem dX8_laysArcs_123 : decode cX8_laysArcs 123 = .ok (.return_, 1) := by decide +kernel
theorem dX8_flows_0 : decode cX8_flows 0 = .ok (.iconst 0, 1) := by decide +kernel
theorem dX8_flows_1 : decode cX8_flows 1 = .ok (.istore_n 3, 1) := by decide +kernel
theorem dX8_flows_2 : decode cX8_flows 2 = .ok (.iload_n 3, 1) := by decide +kernel
theorem dX8_flows_3 : decode cX8_flows 3 = .ok (.bipush 20, 2) := by decide +kernel
theorem dX8_flows_5 : decode cX8_flows 5 = .ok (.if_icmp .ge 26, 3) := by decide +kernel
theorem dX8_flows_8 : decode cX8_flows 8 = .ok (.aload_n 0, 1) := by decide +kernel
theorem dX8_flows_9 : decode cX8_flows 9 = .ok (.getfield 78, 3) := by decide +kernel
theorem dX8_flows_12 : decode cX8_flows 12 = .ok (.iload_n 3, 1) := by decide +kernel
theorem dX8_flows_13 : decode cX8_flows 13 = .ok (.iload_n 3, 1) := by decide +kernel
theorem dX8_flows_14 : decode cX8_flows 14 = .ok (.iload_n 1, 1) := by decide +kernel
theorem dX8_flows_15 : decode cX8_flows 15 = .ok (.if_icmp .ne 7, 3) := by decide +kernel
theorem dX8_flows_18 : decode cX8_flows 18 = .ok (.iconst 0, 1) := by decide +kernel
theorem dX8_flows_19 : decode cX8_flows 19 = .ok (.goto 5, 3) := by decide +kernel
theorem dX8_flows_22 : decode cX8_flows 22 = .ok (.ldc 130, 2) := by decide +kernel
theorem dX8_flows_24 : decode cX8_flows 24 = .ok (.iastore, 1) := by decide +kernel
theorem dX8_flows_25 : decode cX8_flows 25 = .ok (.iinc 3 1, 3) := by decide +kernel
theorem dX8_flows_28 : decode cX8_flows 28 = .ok (.goto (-26), 3) := by decide +kernel
theorem dX8_flows_31 : decode cX8_flows 31 = .ok (.iconst 1, 1) := by decide +kernel
theorem dX8_flows_32 : decode cX8_flows 32 = .ok (.istore_n 3, 1) := by decide +kernel
theorem dX8_flows_33 : decode cX8_flows 33 = .ok (.iload_n 3, 1) := by decide +kernel
theorem dX8_flows_34 : decode cX8_flows 34 = .ok (.ifCond .eq 136, 3) := by decide +kernel
theorem dX8_flows_37 : decode cX8_flows 37 = .ok (.iconst 0, 1) := by decide +kernel
theorem dX8_flows_38 : decode cX8_flows 38 = .ok (.istore_n 3, 1) := by decide +kernel
theorem dX8_flows_39 : decode cX8_flows 39 = .ok (.iconst 0, 1) := by decide +kernel
theorem dX8_flows_40 : decode cX8_flows 40 = .ok (.istore 4, 2) := by decide +kernel
theorem dX8_flows_42 : decode cX8_flows 42 = .ok (.iload 4, 2) := by decide +kernel
theorem dX8_flows_44 : decode cX8_flows 44 = .ok (.aload_n 0, 1) := by decide +kernel
theorem dX8_flows_45 : decode cX8_flows 45 = .ok (.getfield 203, 3) := by decide +kernel
theorem dX8_flows_48 : decode cX8_flows 48 = .ok (.if_icmp .ge 119, 3) := by decide +kernel
theorem dX8_flows_51 : decode cX8_flows 51 = .ok (.aload_n 0, 1) := by decide +kernel
theorem dX8_flows_52 : decode cX8_flows 52 = .ok (.getfield 72, 3) := by decide +kernel
theorem dX8_flows_55 : decode cX8_flows 55 = .ok (.iload 4, 2) := by decide +kernel
theorem dX8_flows_57 : decode cX8_flows 57 = .ok (.iaload, 1) := by decide +kernel
theorem dX8_flows_58 : decode cX8_flows 58 = .ok (.ifCond .le 103, 3) := by decide +kernel
theorem dX8_flows_61 : decode cX8_flows 61 = .ok (.aload_n 0, 1) := by decide +kernel
theorem dX8_flows_62 : decode cX8_flows 62 = .ok (.getfield 78, 3) := by decide +kernel
theorem dX8_flows_65 : decode cX8_flows 65 = .ok (.aload_n 0, 1) := by decide +kernel
theorem dX8_flows_66 : decode cX8_flows 66 = .ok (.getfield 66, 3) := by decide +kernel
theorem dX8_flows_69 : decode cX8_flows 69 = .ok (.iload 4, 2) := by decide +kernel
theorem dX8_flows_71 : decode cX8_flows 71 = .ok (.iaload, 1) := by decide +kernel
theorem dX8_flows_72 : decode cX8_flows 72 = .ok (.iaload, 1) := by decide +kernel
theorem dX8_flows_73 : decode cX8_flows 73 = .ok (.ldc 130, 2) := by decide +kernel
theorem dX8_flows_75 : decode cX8_flows 75 = .ok (.if_icmp .ge 86, 3) := by decide +kernel
theorem dX8_flows_78 : decode cX8_flows 78 = .ok (.aload_n 0, 1) := by decide +kernel
theorem dX8_flows_79 : decode cX8_flows 79 = .ok (.getfield 78, 3) := by decide +kernel
theorem dX8_flows_82 : decode cX8_flows 82 = .ok (.aload_n 0, 1) := by decide +kernel
theorem dX8_flows_83 : decode cX8_flows 83 = .ok (.getfield 66, 3) := by decide +kernel
theorem dX8_flows_86 : decode cX8_flows 86 = .ok (.iload 4, 2) := by decide +kernel
theorem dX8_flows_88 : decode cX8_flows 88 = .ok (.iaload, 1) := by decide +kernel
theorem dX8_flows_89 : decode cX8_flows 89 = .ok (.iaload, 1) := by decide +kernel
theorem dX8_flows_90 : decode cX8_flows 90 = .ok (.aload_n 0, 1) := by decide +kernel
theorem dX8_flows_91 : decode cX8_flows 91 = .ok (.getfield 75, 3) := by decide +kernel
theorem dX8_flows_94 : decode cX8_flows 94 = .ok (.iload 4, 2) := by decide +kernel
theorem dX8_flows_96 : decode cX8_flows 96 = .ok (.iaload, 1) := by decide +kernel
theorem dX8_flows_97 : decode cX8_flows 97 = .ok (.iadd, 1) := by decide +kernel
theorem dX8_flows_98 : decode cX8_flows 98 = .ok (.aload_n 0, 1) := by decide +kernel
theorem dX8_flows_99 : decode cX8_flows 99 = .ok (.getfield 78, 3) := by decide +kernel
theorem dX8_flows_102 : decode cX8_flows 102 = .ok (.aload_n 0, 1) := by decide +kernel
theorem dX8_flows_103 : decode cX8_flows 103 = .ok (.getfield 69, 3) := by decide +kernel
theorem dX8_flows_106 : decode cX8_flows 106 = .ok (.iload 4, 2) := by decide +kernel
theorem dX8_flows_108 : decode cX8_flows 108 = .ok (.iaload, 1) := by decide +kernel
theorem dX8_flows_109 : decode cX8_flows 109 = .ok (.iaload, 1) := by decide +kernel
theorem dX8_flows_110 : decode cX8_flows 110 = .ok (.if_icmp .ge 51, 3) := by decide +kernel
theorem dX8_flows_113 : decode cX8_flows 113 = .ok (.aload_n 0, 1) := by decide +kernel
theorem dX8_flows_114 : decode cX8_flows 114 = .ok (.getfield 78, 3) := by decide +kernel
theorem dX8_flows_117 : decode cX8_flows 117 = .ok (.aload_n 0, 1) := by decide +kernel
theorem dX8_flows_118 : decode cX8_flows 118 = .ok (.getfield 69, 3) := by decide +kernel
theorem dX8_flows_121 : decode cX8_flows 121 = .ok (.iload 4, 2) := by decide +kernel
theorem dX8_flows_123 : decode cX8_flows 123 = .ok (.iaload, 1) := by decide +kernel
theorem dX8_flows_124 : decode cX8_flows 124 = .ok (.aload_n 0, 1) := by decide +kernel
theorem dX8_flows_125 : decode cX8_flows 125 = .ok (.getfield 78, 3) := by decide +kernel
theorem dX8_flows_128 : decode cX8_flows 128 = .ok (.aload_n 0, 1) := by decide +kernel
theorem dX8_flows_129 : decode cX8_flows 129 = .ok (.getfield 66, 3) := by decide +kernel
theorem dX8_flows_132 : decode cX8_flows 132 = .ok (.iload 4, 2) := by decide +kernel
theorem dX8_flows_134 : decode cX8_flows 134 = .ok (.iaload, 1) := by decide +kernel
theorem dX8_flows_135 : decode cX8_flows 135 = .ok (.iaload, 1) := by decide +kernel
theorem dX8_flows_136 : decode cX8_flows 136 = .ok (.aload_n 0, 1) := by decide +kernel
theorem dX8_flows_137 : decode cX8_flows 137 = .ok (.getfield 75, 3) := by decide +kernel
theorem dX8_flows_140 : decode cX8_flows 140 = .ok (.iload 4, 2) := by decide +kernel
theorem dX8_flows_142 : decode cX8_flows 142 = .ok (.iaload, 1) := by decide +kernel
theorem dX8_flows_143 : decode cX8_flows 143 = .ok (.iadd, 1) := by decide +kernel
theorem dX8_flows_144 : decode cX8_flows 144 = .ok (.iastore, 1) := by decide +kernel
theorem dX8_flows_145 : decode cX8_flows 145 = .ok (.aload_n 0, 1) := by decide +kernel
theorem dX8_flows_146 : decode cX8_flows 146 = .ok (.getfield 81, 3) := by decide +kernel
theorem dX8_flows_149 : decode cX8_flows 149 = .ok (.aload_n 0, 1) := by decide +kernel
theorem dX8_flows_150 : decode cX8_flows 150 = .ok (.getfield 69, 3) := by decide +kernel
theorem dX8_flows_153 : decode cX8_flows 153 = .ok (.iload 4, 2) := by decide +kernel
theorem dX8_flows_155 : decode cX8_flows 155 = .ok (.iaload, 1) := by decide +kernel
theorem dX8_flows_156 : decode cX8_flows 156 = .ok (.iload 4, 2) := by decide +kernel
theorem dX8_flows_158 : decode cX8_flows 158 = .ok (.iastore, 1) := by decide +kernel
theorem dX8_flows_159 : decode cX8_flows 159 = .ok (.iconst 1, 1) := by decide +kernel
theorem dX8_flows_160 : decode cX8_flows 160 = .ok (.istore_n 3, 1) := by decide +kernel
theorem dX8_flows_161 : decode cX8_flows 161 = .ok (.iinc 4 1, 3) := by decide +kernel
theorem dX8_flows_164 : decode cX8_flows 164 = .ok (.goto (-122), 3) := by decide +kernel
theorem dX8_flows_167 : decode cX8_flows 167 = .ok (.goto (-134), 3) := by decide +kernel
theorem dX8_flows_170 : decode cX8_flows 170 = .ok (.aload_n 0, 1) := by decide +kernel
theorem dX8_flows_171 : decode cX8_flows 171 = .ok (.getfield 78, 3) := by decide +kernel
theorem dX8_flows_174 : decode cX8_flows 174 = .ok (.bipush 10, 2) := by decide +kernel
theorem dX8_flows_176 : decode cX8_flows 176 = .ok (.iload_n 2, 1) := by decide +kernel
theorem dX8_flows_177 : decode cX8_flows 177 = .ok (.iadd, 1) := by decide +kernel
theorem dX8_flows_178 : decode cX8_flows 178 = .ok (.iaload, 1) := by decide +kernel
theorem dX8_flows_179 : decode cX8_flows 179 = .ok (.ldc 130, 2) := by decide +kernel
theorem dX8_flows_181 : decode cX8_flows 181 = .ok (.if_icmp .ne 7, 3) := by decide +kernel
theorem dX8_flows_184 : decode cX8_flows 184 = .ok (.iload_n 1, 1) := by decide +kernel
theorem dX8_flows_185 : decode cX8_flows 185 = .ok (.goto 7, 3) := by decide +kernel
theorem dX8_flows_188 : decode cX8_flows 188 = .ok (.bipush 10, 2) := by decide +kernel
theorem dX8_flows_190 : decode cX8_flows 190 = .ok (.iload_n 2, 1) := by decide +kernel
theorem dX8_flows_191 : decode cX8_flows 191 = .ok (.iadd, 1) := by decide +kernel
theorem dX8_flows_192 : decode cX8_flows 192 = .ok (.istore 4, 2) := by decide +kernel
theorem dX8_flows_194 : decode cX8_flows 194 = .ok (.iload 4, 2) := by decide +kernel
theorem dX8_flows_196 : decode cX8_flows 196 = .ok (.iload_n 1, 1) := by decide +kernel
theorem dX8_flows_197 : decode cX8_flows 197 = .ok (.if_icmp .eq 62, 3) := by decide +kernel
theorem dX8_flows_200 : decode cX8_flows 200 = .ok (.aload_n 0, 1) := by decide +kernel
theorem dX8_flows_201 : decode cX8_flows 201 = .ok (.getfield 81, 3) := by decide +kernel
theorem dX8_flows_204 : decode cX8_flows 204 = .ok (.iload 4, 2) := by decide +kernel
theorem dX8_flows_206 : decode cX8_flows 206 = .ok (.iaload, 1) := by decide +kernel
theorem dX8_flows_207 : decode cX8_flows 207 = .ok (.istore 5, 2) := by decide +kernel
theorem dX8_flows_209 : decode cX8_flows 209 = .ok (.aload_n 0, 1) := by decide +kernel
theorem dX8_flows_210 : decode cX8_flows 210 = .ok (.getfield 72, 3) := by decide +kernel
theorem dX8_flows_213 : decode cX8_flows 213 = .ok (.iload 5, 2) := by decide +kernel
theorem dX8_flows_215 : decode cX8_flows 215 = .ok (.dup2, 1) := by decide +kernel
theorem dX8_flows_216 : decode cX8_flows 216 = .ok (.iaload, 1) := by decide +kernel
theorem dX8_flows_217 : decode cX8_flows 217 = .ok (.iconst 1, 1) := by decide +kernel
theorem dX8_flows_218 : decode cX8_flows 218 = .ok (.isub, 1) := by decide +kernel
theorem dX8_flows_219 : decode cX8_flows 219 = .ok (.iastore, 1) := by decide +kernel
theorem dX8_flows_220 : decode cX8_flows 220 = .ok (.aload_n 0, 1) := by decide +kernel
theorem dX8_flows_221 : decode cX8_flows 221 = .ok (.getfield 72, 3) := by decide +kernel
theorem dX8_flows_224 : decode cX8_flows 224 = .ok (.iload 5, 2) := by decide +kernel
theorem dX8_flows_226 : decode cX8_flows 226 = .ok (.iconst 2, 1) := by decide +kernel
theorem dX8_flows_227 : decode cX8_flows 227 = .ok (.irem, 1) := by decide +kernel
theorem dX8_flows_228 : decode cX8_flows 228 = .ok (.ifCond .ne 10, 3) := by decide +kernel
theorem dX8_flows_231 : decode cX8_flows 231 = .ok (.iload 5, 2) := by decide +kernel
theorem dX8_flows_233 : decode cX8_flows 233 = .ok (.iconst 1, 1) := by decide +kernel
theorem dX8_flows_234 : decode cX8_flows 234 = .ok (.iadd, 1) := by decide +kernel
theorem dX8_flows_235 : decode cX8_flows 235 = .ok (.goto 7, 3) := by decide +kernel
theorem dX8_flows_238 : decode cX8_flows 238 = .ok (.iload 5, 2) := by decide +kernel
theorem dX8_flows_240 : decode cX8_flows 240 = .ok (.iconst 1, 1) := by decide +kernel
theorem dX8_flows_241 : decode cX8_flows 241 = .ok (.isub, 1) := by decide +kernel
theorem dX8_flows_242 : decode cX8_flows 242 = .ok (.dup2, 1) := by decide +kernel
theorem dX8_flows_243 : decode cX8_flows 243 = .ok (.iaload, 1) := by decide +kernel
theorem dX8_flows_244 : decode cX8_flows 244 = .ok (.iconst 1, 1) := by decide +kernel
theorem dX8_flows_245 : decode cX8_flows 245 = .ok (.iadd, 1) := by decide +kernel
theorem dX8_flows_246 : decode cX8_flows 246 = .ok (.iastore, 1) := by decide +kernel
theorem dX8_flows_247 : decode cX8_flows 247 = .ok (.aload_n 0, 1) := by decide +kernel
theorem dX8_flows_248 : decode cX8_flows 248 = .ok (.getfield 66, 3) := by decide +kernel
theorem dX8_flows_251 : decode cX8_flows 251 = .ok (.iload 5, 2) := by decide +kernel
theorem dX8_flows_253 : decode cX8_flows 253 = .ok (.iaload, 1) := by decide +kernel
theorem dX8_flows_254 : decode cX8_flows 254 = .ok (.istore 4, 2) := by decide +kernel
theorem dX8_flows_256 : decode cX8_flows 256 = .ok (.goto (-62), 3) := by decide +kernel
theorem dX8_flows_259 : decode cX8_flows 259 = .ok (.aload_n 0, 1) := by decide +kernel
theorem dX8_flows_260 : decode cX8_flows 260 = .ok (.getfield 78, 3) := by decide +kernel
theorem dX8_flows_263 : decode cX8_flows 263 = .ok (.bipush 10, 2) := by decide +kernel
theorem dX8_flows_265 : decode cX8_flows 265 = .ok (.iload_n 2, 1) := by decide +kernel
theorem dX8_flows_266 : decode cX8_flows 266 = .ok (.iadd, 1) := by decide +kernel
theorem dX8_flows_267 : decode cX8_flows 267 = .ok (.iaload, 1) := by decide +kernel
theorem dX8_flows_268 : decode cX8_flows 268 = .ok (.ireturn, 1) := by decide +kernel
theorem dX8_many_0 : decode cX8_many 0 = .ok (.iconst 0, 1) := by decide +kernel
theorem dX8_many_1 : decode cX8_many 1 = .ok (.istore 4, 2) := by decide +kernel
theorem dX8_many_3 : decode cX8_many 3 = .ok (.aload_n 0, 1) := by decide +kernel
theorem dX8_many_4 : decode cX8_many 4 = .ok (.iload_n 1, 1) := by decide +kernel
theorem dX8_many_5 : decode cX8_many 5 = .ok (.iload_n 2, 1) := by decide +kernel
theorem dX8_many_6 : decode cX8_many 6 = .ok (.iload_n 3, 1) := by decide +kernel
theorem dX8_many_7 : decode cX8_many 7 = .ok (.invokevirtual 210, 3) := by decide +kernel
theorem dX8_many_10 : decode cX8_many 10 = .ok (.aload_n 0, 1) := by decide +kernel
theorem dX8_many_11 : decode cX8_many 11 = .ok (.iload_n 1, 1) := by decide +kernel
theorem dX8_many_12 : decode cX8_many 12 = .ok (.iload_n 2, 1) := by decide +kernel
theorem dX8_many_13 : decode cX8_many 13 = .ok (.invokevirtual 214, 3) := by decide +kernel
theorem dX8_many_16 : decode cX8_many 16 = .ok (.ldc 130, 2) := by decide +kernel
theorem dX8_many_18 : decode cX8_many 18 = .ok (.if_icmp .ge 9, 3) := by decide +kernel
theorem dX8_many_21 : decode cX8_many 21 = .ok (.iinc 4 1, 3) := by decide +kernel
theorem dX8_many_24 : decode cX8_many 24 = .ok (.goto (-14), 3) := by decide +kernel
theorem dX8_many_27 : decode cX8_many 27 = .ok (.iload 4, 2) := by decide +kernel
theorem dX8_many_29 : decode cX8_many 29 = .ok (.ireturn, 1) := by decide +kernel
theorem dX8_disjointPaths_0 : decode cX8_disjointPaths 0 = .ok (.aload_n 0, 1) := by decide +kernel
theorem dX8_disjointPaths_1 : decode cX8_disjointPaths 1 = .ok (.aload_n 0, 1) := by decide +kernel
theorem dX8_disjointPaths_2 : decode cX8_disjointPaths 2 = .ok (.iload_n 1, 1) := by decide +kernel
theorem dX8_disjointPaths_3 : decode cX8_disjointPaths 3 = .ok (.iload_n 2, 1) := by decide +kernel
theorem dX8_disjointPaths_4 : decode cX8_disjointPaths 4 = .ok (.invokevirtual 121, 3) := by decide +kernel
theorem dX8_disjointPaths_7 : decode cX8_disjointPaths 7 = .ok (.ifCond .eq 7, 3) := by decide +kernel
theorem dX8_disjointPaths_10 : decode cX8_disjointPaths 10 = .ok (.iconst 0, 1) := by decide +kernel
theorem dX8_disjointPaths_11 : decode cX8_disjointPaths 11 = .ok (.goto 4, 3) := by decide +kernel
theorem dX8_disjointPaths_14 : decode cX8_disjointPaths 14 = .ok (.iconst 1, 1) := by decide +kernel
theorem dX8_disjointPaths_15 : decode cX8_disjointPaths 15 = .ok (.invokevirtual 115, 3) := by decide +kernel
theorem dX8_disjointPaths_18 : decode cX8_disjointPaths 18 = .ok (.ifCond .eq 13, 3) := by decide +kernel
theorem dX8_disjointPaths_21 : decode cX8_disjointPaths 21 = .ok (.aload_n 0, 1) := by decide +kernel
theorem dX8_disjointPaths_22 : decode cX8_disjointPaths 22 = .ok (.iload_n 1, 1) := by decide +kernel
theorem dX8_disjointPaths_23 : decode cX8_disjointPaths 23 = .ok (.iload_n 2, 1) := by decide +kernel
theorem dX8_disjointPaths_24 : decode cX8_disjointPaths 24 = .ok (.iload_n 3, 1) := by decide +kernel
theorem dX8_disjointPaths_25 : decode cX8_disjointPaths 25 = .ok (.invokevirtual 217, 3) := by decide +kernel
theorem dX8_disjointPaths_28 : decode cX8_disjointPaths 28 = .ok (.goto 4, 3) := by decide +kernel
theorem dX8_disjointPaths_31 : decode cX8_disjointPaths 31 = .ok (.iconst 0, 1) := by decide +kernel
theorem dX8_disjointPaths_32 : decode cX8_disjointPaths 32 = .ok (.ireturn, 1) := by decide +kernel
theorem dX8_together_0 : decode cX8_together 0 = .ok (.iconst 0, 1) := by decide +kernel
theorem dX8_together_1 : decode cX8_together 1 = .ok (.istore 5, 2) := by decide +kernel
theorem dX8_together_3 : decode cX8_together 3 = .ok (.aload_n 0, 1) := by decide +kernel
theorem dX8_together_4 : decode cX8_together 4 = .ok (.iload_n 1, 1) := by decide +kernel
theorem dX8_together_5 : decode cX8_together 5 = .ok (.iload_n 2, 1) := by decide +kernel
theorem dX8_together_6 : decode cX8_together 6 = .ok (.iload 4, 2) := by decide +kernel
theorem dX8_together_8 : decode cX8_together 8 = .ok (.invokevirtual 210, 3) := by decide +kernel
theorem dX8_together_11 : decode cX8_together 11 = .ok (.iconst 0, 1) := by decide +kernel
theorem dX8_together_12 : decode cX8_together 12 = .ok (.istore 6, 2) := by decide +kernel
theorem dX8_together_14 : decode cX8_together 14 = .ok (.iload 6, 2) := by decide +kernel
theorem dX8_together_16 : decode cX8_together 16 = .ok (.iload_n 3, 1) := by decide +kernel
theorem dX8_together_17 : decode cX8_together 17 = .ok (.if_icmp .ge 43, 3) := by decide +kernel
theorem dX8_together_20 : decode cX8_together 20 = .ok (.iload 5, 2) := by decide +kernel
theorem dX8_together_22 : decode cX8_together 22 = .ok (.ldc 130, 2) := by decide +kernel
theorem dX8_together_24 : decode cX8_together 24 = .ok (.if_icmp .ge 36, 3) := by decide +kernel
theorem dX8_together_27 : decode cX8_together 27 = .ok (.aload_n 0, 1) := by decide +kernel
theorem dX8_together_28 : decode cX8_together 28 = .ok (.iload_n 1, 1) := by decide +kernel
theorem dX8_together_29 : decode cX8_together 29 = .ok (.iload_n 2, 1) := by decide +kernel
theorem dX8_together_30 : decode cX8_together 30 = .ok (.invokevirtual 214, 3) := by decide +kernel
theorem dX8_together_33 : decode cX8_together 33 = .ok (.istore 7, 2) := by decide +kernel
theorem dX8_together_35 : decode cX8_together 35 = .ok (.iload 7, 2) := by decide +kernel
theorem dX8_together_37 : decode cX8_together 37 = .ok (.ldc 130, 2) := by decide +kernel
theorem dX8_together_39 : decode cX8_together 39 = .ok (.if_icmp .ne 8, 3) := by decide +kernel
theorem dX8_together_42 : decode cX8_together 42 = .ok (.ldc 130, 2) := by decide +kernel
theorem dX8_together_44 : decode cX8_together 44 = .ok (.goto 8, 3) := by decide +kernel
theorem dX8_together_47 : decode cX8_together 47 = .ok (.iload 5, 2) := by decide +kernel
theorem dX8_together_49 : decode cX8_together 49 = .ok (.iload 7, 2) := by decide +kernel
theorem dX8_together_51 : decode cX8_together 51 = .ok (.iadd, 1) := by decide +kernel
theorem dX8_together_52 : decode cX8_together 52 = .ok (.istore 5, 2) := by decide +kernel
theorem dX8_together_54 : decode cX8_together 54 = .ok (.iinc 6 1, 3) := by decide +kernel
theorem dX8_together_57 : decode cX8_together 57 = .ok (.goto (-43), 3) := by decide +kernel
theorem dX8_together_60 : decode cX8_together 60 = .ok (.iload 5, 2) := by decide +kernel
theorem dX8_together_62 : decode cX8_together 62 = .ok (.ireturn, 1) := by decide +kernel
theorem dX8_disjointLength_0 : decode cX8_disjointLength 0 = .ok (.aload_n 0, 1) := by decide +kernel
theorem dX8_disjointLength_1 : decode cX8_disjointLength 1 = .ok (.iload_n 1, 1) := by decide +kernel
theorem dX8_disjointLength_2 : decode cX8_disjointLength 2 = .ok (.iload_n 2, 1) := by decide +kernel
theorem dX8_disjointLength_3 : decode cX8_disjointLength 3 = .ok (.invokevirtual 121, 3) := by decide +kernel
theorem dX8_disjointLength_6 : decode cX8_disjointLength 6 = .ok (.ifCond .eq 16, 3) := by decide +kernel
theorem dX8_disjointLength_9 : decode cX8_disjointLength 9 = .ok (.iload_n 3, 1) := by decide +kernel
theorem dX8_disjointLength_10 : decode cX8_disjointLength 10 = .ok (.iconst 1, 1) := by decide +kernel
theorem dX8_disjointLength_11 : decode cX8_disjointLength 11 = .ok (.iconst 4, 1) := by decide +kernel
theorem dX8_disjointLength_12 : decode cX8_disjointLength 12 = .ok (.invokestatic 93, 3) := by decide +kernel
theorem dX8_disjointLength_15 : decode cX8_disjointLength 15 = .ok (.ifCond .eq 7, 3) := by decide +kernel
theorem dX8_disjointLength_18 : decode cX8_disjointLength 18 = .ok (.iconst 1, 1) := by decide +kernel
theorem dX8_disjointLength_19 : decode cX8_disjointLength 19 = .ok (.goto 4, 3) := by decide +kernel
theorem dX8_disjointLength_22 : decode cX8_disjointLength 22 = .ok (.iconst 0, 1) := by decide +kernel
theorem dX8_disjointLength_23 : decode cX8_disjointLength 23 = .ok (.istore 5, 2) := by decide +kernel
theorem dX8_disjointLength_25 : decode cX8_disjointLength 25 = .ok (.iload 5, 2) := by decide +kernel
theorem dX8_disjointLength_27 : decode cX8_disjointLength 27 = .ok (.ifCond .eq 15, 3) := by decide +kernel
theorem dX8_disjointLength_30 : decode cX8_disjointLength 30 = .ok (.aload_n 0, 1) := by decide +kernel
theorem dX8_disjointLength_31 : decode cX8_disjointLength 31 = .ok (.iload_n 1, 1) := by decide +kernel
theorem dX8_disjointLength_32 : decode cX8_disjointLength 32 = .ok (.iload_n 2, 1) := by decide +kernel
theorem dX8_disjointLength_33 : decode cX8_disjointLength 33 = .ok (.iload_n 3, 1) := by decide +kernel
theorem dX8_disjointLength_34 : decode cX8_disjointLength 34 = .ok (.iload 4, 2) := by decide +kernel
theorem dX8_disjointLength_36 : decode cX8_disjointLength 36 = .ok (.invokevirtual 221, 3) := by decide +kernel
theorem dX8_disjointLength_39 : decode cX8_disjointLength 39 = .ok (.goto 4, 3) := by decide +kernel
theorem dX8_disjointLength_42 : decode cX8_disjointLength 42 = .ok (.iconst 0, 1) := by decide +kernel
theorem dX8_disjointLength_43 : decode cX8_disjointLength 43 = .ok (.istore 6, 2) := by decide +kernel
theorem dX8_disjointLength_45 : decode cX8_disjointLength 45 = .ok (.aload_n 0, 1) := by decide +kernel
theorem dX8_disjointLength_46 : decode cX8_disjointLength 46 = .ok (.iload 5, 2) := by decide +kernel
theorem dX8_disjointLength_48 : decode cX8_disjointLength 48 = .ok (.ifCond .ne 7, 3) := by decide +kernel
theorem dX8_disjointLength_51 : decode cX8_disjointLength 51 = .ok (.iconst 1, 1) := by decide +kernel
theorem dX8_disjointLength_52 : decode cX8_disjointLength 52 = .ok (.goto 15, 3) := by decide +kernel
theorem dX8_disjointLength_55 : decode cX8_disjointLength 55 = .ok (.iload 6, 2) := by decide +kernel
theorem dX8_disjointLength_57 : decode cX8_disjointLength 57 = .ok (.ldc 130, 2) := by decide +kernel
theorem dX8_disjointLength_59 : decode cX8_disjointLength 59 = .ok (.if_icmp .ne 7, 3) := by decide +kernel
theorem dX8_disjointLength_62 : decode cX8_disjointLength 62 = .ok (.iconst 2, 1) := by decide +kernel
theorem dX8_disjointLength_63 : decode cX8_disjointLength 63 = .ok (.goto 4, 3) := by decide +kernel
theorem dX8_disjointLength_66 : decode cX8_disjointLength 66 = .ok (.iconst 0, 1) := by decide +kernel
theorem dX8_disjointLength_67 : decode cX8_disjointLength 67 = .ok (.invokevirtual 115, 3) := by decide +kernel
theorem dX8_disjointLength_70 : decode cX8_disjointLength 70 = .ok (.ifCond .eq 8, 3) := by decide +kernel
theorem dX8_disjointLength_73 : decode cX8_disjointLength 73 = .ok (.iload 6, 2) := by decide +kernel
theorem dX8_disjointLength_75 : decode cX8_disjointLength 75 = .ok (.goto 4, 3) := by decide +kernel
theorem dX8_disjointLength_78 : decode cX8_disjointLength 78 = .ok (.iconst 0, 1) := by decide +kernel
theorem dX8_disjointLength_79 : decode cX8_disjointLength 79 = .ok (.ireturn, 1) := by decide +kernel
theorem dX8_mayFollow_0 : decode cX8_mayFollow 0 = .ok (.aload_n 0, 1) := by decide +kernel
theorem dX8_mayFollow_1 : decode cX8_mayFollow 1 = .ok (.iload_n 2, 1) := by decide +kernel
theorem dX8_mayFollow_2 : decode cX8_mayFollow 2 = .ok (.invokevirtual 127, 3) := by decide +kernel
theorem dX8_mayFollow_5 : decode cX8_mayFollow 5 = .ok (.ifCond .eq 36, 3) := by decide +kernel
theorem dX8_mayFollow_8 : decode cX8_mayFollow 8 = .ok (.aload_n 0, 1) := by decide +kernel
theorem dX8_mayFollow_9 : decode cX8_mayFollow 9 = .ok (.getfield 13, 3) := by decide +kernel
theorem dX8_mayFollow_12 : decode cX8_mayFollow 12 = .ok (.iload_n 2, 1) := by decide +kernel
theorem dX8_mayFollow_13 : decode cX8_mayFollow 13 = .ok (.iaload, 1) := by decide +kernel
theorem dX8_mayFollow_14 : decode cX8_mayFollow 14 = .ok (.aload_n 0, 1) := by decide +kernel
theorem dX8_mayFollow_15 : decode cX8_mayFollow 15 = .ok (.getfield 17, 3) := by decide +kernel
theorem dX8_mayFollow_18 : decode cX8_mayFollow 18 = .ok (.iload_n 1, 1) := by decide +kernel
theorem dX8_mayFollow_19 : decode cX8_mayFollow 19 = .ok (.iaload, 1) := by decide +kernel
theorem dX8_mayFollow_20 : decode cX8_mayFollow 20 = .ok (.if_icmp .ne 21, 3) := by decide +kernel
theorem dX8_mayFollow_23 : decode cX8_mayFollow 23 = .ok (.aload_n 0, 1) := by decide +kernel
theorem dX8_mayFollow_24 : decode cX8_mayFollow 24 = .ok (.getfield 30, 3) := by decide +kernel
theorem dX8_mayFollow_27 : decode cX8_mayFollow 27 = .ok (.bipush 24, 2) := by decide +kernel
theorem dX8_mayFollow_29 : decode cX8_mayFollow 29 = .ok (.iload_n 1, 1) := by decide +kernel
theorem dX8_mayFollow_30 : decode cX8_mayFollow 30 = .ok (.imul, 1) := by decide +kernel
theorem dX8_mayFollow_31 : decode cX8_mayFollow 31 = .ok (.iload_n 2, 1) := by decide +kernel
theorem dX8_mayFollow_32 : decode cX8_mayFollow 32 = .ok (.iadd, 1) := by decide +kernel
theorem dX8_mayFollow_33 : decode cX8_mayFollow 33 = .ok (.baload, 1) := by decide +kernel
theorem dX8_mayFollow_34 : decode cX8_mayFollow 34 = .ok (.ifCond .ne 7, 3) := by decide +kernel
theorem dX8_mayFollow_37 : decode cX8_mayFollow 37 = .ok (.iconst 1, 1) := by decide +kernel
theorem dX8_mayFollow_38 : decode cX8_mayFollow 38 = .ok (.goto 4, 3) := by decide +kernel
theorem dX8_mayFollow_41 : decode cX8_mayFollow 41 = .ok (.iconst 0, 1) := by decide +kernel
theorem dX8_mayFollow_42 : decode cX8_mayFollow 42 = .ok (.ireturn, 1) := by decide +kernel
theorem dX8_laysRests_0 : decode cX8_laysRests 0 = .ok (.iconst 0, 1) := by decide +kernel
theorem dX8_laysRests_1 : decode cX8_laysRests 1 = .ok (.istore_n 2, 1) := by decide +kernel
theorem dX8_laysRests_2 : decode cX8_laysRests 2 = .ok (.iload_n 2, 1) := by decide +kernel
theorem dX8_laysRests_3 : decode cX8_laysRests 3 = .ok (.aload_n 0, 1) := by decide +kernel
theorem dX8_laysRests_4 : decode cX8_laysRests 4 = .ok (.getfield 105, 3) := by decide +kernel
theorem dX8_laysRests_7 : decode cX8_laysRests 7 = .ok (.if_icmp .ge 44, 3) := by decide +kernel
theorem dX8_laysRests_10 : decode cX8_laysRests 10 = .ok (.aload_n 0, 1) := by decide +kernel
theorem dX8_laysRests_11 : decode cX8_laysRests 11 = .ok (.getfield 84, 3) := by decide +kernel
theorem dX8_laysRests_14 : decode cX8_laysRests 14 = .ok (.iload_n 2, 1) := by decide +kernel
theorem dX8_laysRests_15 : decode cX8_laysRests 15 = .ok (.aload_n 0, 1) := by decide +kernel
theorem dX8_laysRests_16 : decode cX8_laysRests 16 = .ok (.iload_n 2, 1) := by decide +kernel
theorem dX8_laysRests_17 : decode cX8_laysRests 17 = .ok (.invokevirtual 127, 3) := by decide +kernel
theorem dX8_laysRests_20 : decode cX8_laysRests 20 = .ok (.ifCond .eq 22, 3) := by decide +kernel
theorem dX8_laysRests_23 : decode cX8_laysRests 23 = .ok (.aload_n 0, 1) := by decide +kernel
theorem dX8_laysRests_24 : decode cX8_laysRests 24 = .ok (.getfield 17, 3) := by decide +kernel
theorem dX8_laysRests_27 : decode cX8_laysRests 27 = .ok (.iload_n 2, 1) := by decide +kernel
theorem dX8_laysRests_28 : decode cX8_laysRests 28 = .ok (.iaload, 1) := by decide +kernel
theorem dX8_laysRests_29 : decode cX8_laysRests 29 = .ok (.iload_n 1, 1) := by decide +kernel
theorem dX8_laysRests_30 : decode cX8_laysRests 30 = .ok (.if_icmp .ne 12, 3) := by decide +kernel
theorem dX8_laysRests_33 : decode cX8_laysRests 33 = .ok (.aload_n 0, 1) := by decide +kernel
theorem dX8_laysRests_34 : decode cX8_laysRests 34 = .ok (.getfield 20, 3) := by decide +kernel
theorem dX8_laysRests_37 : decode cX8_laysRests 37 = .ok (.iload_n 2, 1) := by decide +kernel
theorem dX8_laysRests_38 : decode cX8_laysRests 38 = .ok (.iaload, 1) := by decide +kernel
theorem dX8_laysRests_39 : decode cX8_laysRests 39 = .ok (.goto 5, 3) := by decide +kernel
theorem dX8_laysRests_42 : decode cX8_laysRests 42 = .ok (.ldc 130, 2) := by decide +kernel
theorem dX8_laysRests_44 : decode cX8_laysRests 44 = .ok (.iastore, 1) := by decide +kernel
theorem dX8_laysRests_45 : decode cX8_laysRests 45 = .ok (.iinc 2 1, 3) := by decide +kernel
theorem dX8_laysRests_48 : decode cX8_laysRests 48 = .ok (.goto (-46), 3) := by decide +kernel
theorem dX8_laysRests_51 : decode cX8_laysRests 51 = .ok (.iconst 0, 1) := by decide +kernel
theorem dX8_laysRests_52 : decode cX8_laysRests 52 = .ok (.istore_n 2, 1) := by decide +kernel
theorem dX8_laysRests_53 : decode cX8_laysRests 53 = .ok (.iload_n 2, 1) := by decide +kernel
theorem dX8_laysRests_54 : decode cX8_laysRests 54 = .ok (.aload_n 0, 1) := by decide +kernel
theorem dX8_laysRests_55 : decode cX8_laysRests 55 = .ok (.getfield 105, 3) := by decide +kernel
theorem dX8_laysRests_58 : decode cX8_laysRests 58 = .ok (.if_icmp .ge 104, 3) := by decide +kernel
theorem dX8_laysRests_61 : decode cX8_laysRests 61 = .ok (.iconst 0, 1) := by decide +kernel
theorem dX8_laysRests_62 : decode cX8_laysRests 62 = .ok (.istore_n 3, 1) := by decide +kernel
theorem dX8_laysRests_63 : decode cX8_laysRests 63 = .ok (.iload_n 3, 1) := by decide +kernel
theorem dX8_laysRests_64 : decode cX8_laysRests 64 = .ok (.aload_n 0, 1) := by decide +kernel
theorem dX8_laysRests_65 : decode cX8_laysRests 65 = .ok (.getfield 105, 3) := by decide +kernel
theorem dX8_laysRests_68 : decode cX8_laysRests 68 = .ok (.if_icmp .ge 88, 3) := by decide +kernel
theorem dX8_laysRests_71 : decode cX8_laysRests 71 = .ok (.iconst 0, 1) := by decide +kernel
theorem dX8_laysRests_72 : decode cX8_laysRests 72 = .ok (.istore 4, 2) := by decide +kernel
theorem dX8_laysRests_74 : decode cX8_laysRests 74 = .ok (.iload 4, 2) := by decide +kernel
theorem dX8_laysRests_76 : decode cX8_laysRests 76 = .ok (.aload_n 0, 1) := by decide +kernel
theorem dX8_laysRests_77 : decode cX8_laysRests 77 = .ok (.getfield 105, 3) := by decide +kernel
theorem dX8_laysRests_80 : decode cX8_laysRests 80 = .ok (.if_icmp .ge 70, 3) := by decide +kernel
theorem dX8_laysRests_83 : decode cX8_laysRests 83 = .ok (.aload_n 0, 1) := by decide +kernel
theorem dX8_laysRests_84 : decode cX8_laysRests 84 = .ok (.iload_n 3, 1) := by decide +kernel
theorem dX8_laysRests_85 : decode cX8_laysRests 85 = .ok (.invokevirtual 127, 3) := by decide +kernel
theorem dX8_laysRests_88 : decode cX8_laysRests 88 = .ok (.ifCond .eq 56, 3) := by decide +kernel
theorem dX8_laysRests_91 : decode cX8_laysRests 91 = .ok (.aload_n 0, 1) := by decide +kernel
theorem dX8_laysRests_92 : decode cX8_laysRests 92 = .ok (.iload_n 3, 1) := by decide +kernel
theorem dX8_laysRests_93 : decode cX8_laysRests 93 = .ok (.iload 4, 2) := by decide +kernel
theorem dX8_laysRests_95 : decode cX8_laysRests 95 = .ok (.invokevirtual 224, 3) := by decide +kernel
theorem dX8_laysRests_98 : decode cX8_laysRests 98 = .ok (.ifCond .eq 46, 3) := by decide +kernel
theorem dX8_laysRests_101 : decode cX8_laysRests 101 = .ok (.aload_n 0, 1) := by decide +kernel
theorem dX8_laysRests_102 : decode cX8_laysRests 102 = .ok (.getfield 84, 3) := by decide +kernel
theorem dX8_laysRests_105 : decode cX8_laysRests 105 = .ok (.iload 4, 2) := by decide +kernel
theorem dX8_laysRests_107 : decode cX8_laysRests 107 = .ok (.iaload, 1) := by decide +kernel
theorem dX8_laysRests_108 : decode cX8_laysRests 108 = .ok (.aload_n 0, 1) := by decide +kernel
theorem dX8_laysRests_109 : decode cX8_laysRests 109 = .ok (.getfield 20, 3) := by decide +kernel
theorem dX8_laysRests_112 : decode cX8_laysRests 112 = .ok (.iload_n 3, 1) := by decide +kernel
theorem dX8_laysRests_113 : decode cX8_laysRests 113 = .ok (.iaload, 1) := by decide +kernel
theorem dX8_laysRests_114 : decode cX8_laysRests 114 = .ok (.iadd, 1) := by decide +kernel
theorem dX8_laysRests_115 : decode cX8_laysRests 115 = .ok (.aload_n 0, 1) := by decide +kernel
theorem dX8_laysRests_116 : decode cX8_laysRests 116 = .ok (.getfield 84, 3) := by decide +kernel
theorem dX8_laysRests_119 : decode cX8_laysRests 119 = .ok (.iload_n 3, 1) := by decide +kernel
theorem dX8_laysRests_120 : decode cX8_laysRests 120 = .ok (.iaload, 1) := by decide +kernel
theorem dX8_laysRests_121 : decode cX8_laysRests 121 = .ok (.if_icmp .ge 23, 3) := by decide +kernel
theorem dX8_laysRests_124 : decode cX8_laysRests 124 = .ok (.aload_n 0, 1) := by decide +kernel
theorem dX8_laysRests_125 : decode cX8_laysRests 125 = .ok (.getfield 84, 3) := by decide +kernel
theorem dX8_laysRests_128 : decode cX8_laysRests 128 = .ok (.iload_n 3, 1) := by decide +kernel
theorem dX8_laysRests_129 : decode cX8_laysRests 129 = .ok (.aload_n 0, 1) := by decide +kernel
theorem dX8_laysRests_130 : decode cX8_laysRests 130 = .ok (.getfield 84, 3) := by decide +kernel
theorem dX8_laysRests_133 : decode cX8_laysRests 133 = .ok (.iload 4, 2) := by decide +kernel
theorem dX8_laysRests_135 : decode cX8_laysRests 135 = .ok (.iaload, 1) := by decide +kernel
theorem dX8_laysRests_136 : decode cX8_laysRests 136 = .ok (.aload_n 0, 1) := by decide +kernel
theorem dX8_laysRests_137 : decode cX8_laysRests 137 = .ok (.getfield 20, 3) := by decide +kernel
theorem dX8_laysRests_140 : decode cX8_laysRests 140 = .ok (.iload_n 3, 1) := by decide +kernel
theorem dX8_laysRests_141 : decode cX8_laysRests 141 = .ok (.iaload, 1) := by decide +kernel
theorem dX8_laysRests_142 : decode cX8_laysRests 142 = .ok (.iadd, 1) := by decide +kernel
theorem dX8_laysRests_143 : decode cX8_laysRests 143 = .ok (.iastore, 1) := by decide +kernel
theorem dX8_laysRests_144 : decode cX8_laysRests 144 = .ok (.iinc 4 1, 3) := by decide +kernel
theorem dX8_laysRests_147 : decode cX8_laysRests 147 = .ok (.goto (-73), 3) := by decide +kernel
theorem dX8_laysRests_150 : decode cX8_laysRests 150 = .ok (.iinc 3 1, 3) := by decide +kernel
theorem dX8_laysRests_153 : decode cX8_laysRests 153 = .ok (.goto (-90), 3) := by decide +kernel
theorem dX8_laysRests_156 : decode cX8_laysRests 156 = .ok (.iinc 2 1, 3) := by decide +kernel
theorem dX8_laysRests_159 : decode cX8_laysRests 159 = .ok (.goto (-106), 3) := by decide +kernel
theorem dX8_laysRests_162 : decode cX8_laysRests 162 = .ok (.return_, 1) := by decide +kernel
theorem dX8_laysAllowed_0 : decode cX8_laysAllowed 0 = .ok (.aload_n 0, 1) := by decide +kernel
theorem dX8_laysAllowed_1 : decode cX8_laysAllowed 1 = .ok (.iconst 0, 1) := by decide +kernel
theorem dX8_laysAllowed_2 : decode cX8_laysAllowed 2 = .ok (.putfield 227, 3) := by decide +kernel
theorem dX8_laysAllowed_5 : decode cX8_laysAllowed 5 = .ok (.iload_n 1, 1) := by decide +kernel
theorem dX8_laysAllowed_6 : decode cX8_laysAllowed 6 = .ok (.iload_n 2, 1) := by decide +kernel
theorem dX8_laysAllowed_7 : decode cX8_laysAllowed 7 = .ok (.if_icmp .ne 5, 3) := by decide +kernel
theorem dX8_laysAllowed_10 : decode cX8_laysAllowed 10 = .ok (.iconst 0, 1) := by decide +kernel
theorem dX8_laysAllowed_11 : decode cX8_laysAllowed 11 = .ok (.ireturn, 1) := by decide +kernel
theorem dX8_laysAllowed_12 : decode cX8_laysAllowed 12 = .ok (.aload_n 0, 1) := by decide +kernel
theorem dX8_laysAllowed_13 : decode cX8_laysAllowed 13 = .ok (.iload_n 2, 1) := by decide +kernel
theorem dX8_laysAllowed_14 : decode cX8_laysAllowed 14 = .ok (.invokevirtual 230, 3) := by decide +kernel
theorem dX8_laysAllowed_17 : decode cX8_laysAllowed 17 = .ok (.iconst (-1), 1) := by decide +kernel
theorem dX8_laysAllowed_18 : decode cX8_laysAllowed 18 = .ok (.istore_n 3, 1) := by decide +kernel
theorem dX8_laysAllowed_19 : decode cX8_laysAllowed 19 = .ok (.iconst 0, 1) := by decide +kernel
theorem dX8_laysAllowed_20 : decode cX8_laysAllowed 20 = .ok (.istore 4, 2) := by decide +kernel
theorem dX8_laysAllowed_22 : decode cX8_laysAllowed 22 = .ok (.iload 4, 2) := by decide +kernel
theorem dX8_laysAllowed_24 : decode cX8_laysAllowed 24 = .ok (.aload_n 0, 1) := by decide +kernel
theorem dX8_laysAllowed_25 : decode cX8_laysAllowed 25 = .ok (.getfield 105, 3) := by decide +kernel
theorem dX8_laysAllowed_28 : decode cX8_laysAllowed 28 = .ok (.if_icmp .ge 55, 3) := by decide +kernel
theorem dX8_laysAllowed_31 : decode cX8_laysAllowed 31 = .ok (.aload_n 0, 1) := by decide +kernel
theorem dX8_laysAllowed_32 : decode cX8_laysAllowed 32 = .ok (.getfield 13, 3) := by decide +kernel
theorem dX8_laysAllowed_35 : decode cX8_laysAllowed 35 = .ok (.iload 4, 2) := by decide +kernel
theorem dX8_laysAllowed_37 : decode cX8_laysAllowed 37 = .ok (.iaload, 1) := by decide +kernel
theorem dX8_laysAllowed_38 : decode cX8_laysAllowed 38 = .ok (.iload_n 1, 1) := by decide +kernel
theorem dX8_laysAllowed_39 : decode cX8_laysAllowed 39 = .ok (.if_icmp .ne 38, 3) := by decide +kernel
theorem dX8_laysAllowed_42 : decode cX8_laysAllowed 42 = .ok (.aload_n 0, 1) := by decide +kernel
theorem dX8_laysAllowed_43 : decode cX8_laysAllowed 43 = .ok (.getfield 84, 3) := by decide +kernel
theorem dX8_laysAllowed_46 : decode cX8_laysAllowed 46 = .ok (.iload 4, 2) := by decide +kernel
theorem dX8_laysAllowed_48 : decode cX8_laysAllowed 48 = .ok (.iaload, 1) := by decide +kernel
theorem dX8_laysAllowed_49 : decode cX8_laysAllowed 49 = .ok (.ldc 130, 2) := by decide +kernel
theorem dX8_laysAllowed_51 : decode cX8_laysAllowed 51 = .ok (.if_icmp .ge 26, 3) := by decide +kernel
theorem dX8_laysAllowed_54 : decode cX8_laysAllowed 54 = .ok (.iload_n 3, 1) := by decide +kernel
theorem dX8_laysAllowed_55 : decode cX8_laysAllowed 55 = .ok (.ifCond .lt 19, 3) := by decide +kernel
theorem dX8_laysAllowed_58 : decode cX8_laysAllowed 58 = .ok (.aload_n 0, 1) := by decide +kernel
theorem dX8_laysAllowed_59 : decode cX8_laysAllowed 59 = .ok (.getfield 84, 3) := by decide +kernel
theorem dX8_laysAllowed_62 : decode cX8_laysAllowed 62 = .ok (.iload 4, 2) := by decide +kernel
theorem dX8_laysAllowed_64 : decode cX8_laysAllowed 64 = .ok (.iaload, 1) := by decide +kernel
theorem dX8_laysAllowed_65 : decode cX8_laysAllowed 65 = .ok (.aload_n 0, 1) := by decide +kernel
theorem dX8_laysAllowed_66 : decode cX8_laysAllowed 66 = .ok (.getfield 84, 3) := by decide +kernel
theorem dX8_laysAllowed_69 : decode cX8_laysAllowed 69 = .ok (.iload_n 3, 1) := by decide +kernel
theorem dX8_laysAllowed_70 : decode cX8_laysAllowed 70 = .ok (.iaload, 1) := by decide +kernel
theorem dX8_laysAllowed_71 : decode cX8_laysAllowed 71 = .ok (.if_icmp .ge 6, 3) := by decide +kernel
theorem dX8_laysAllowed_74 : decode cX8_laysAllowed 74 = .ok (.iload 4, 2) := by decide +kernel
theorem dX8_laysAllowed_76 : decode cX8_laysAllowed 76 = .ok (.istore_n 3, 1) := by decide +kernel
theorem dX8_laysAllowed_77 : decode cX8_laysAllowed 77 = .ok (.iinc 4 1, 3) := by decide +kernel
theorem dX8_laysAllowed_80 : decode cX8_laysAllowed 80 = .ok (.goto (-58), 3) := by decide +kernel
theorem dX8_laysAllowed_83 : decode cX8_laysAllowed 83 = .ok (.iload_n 3, 1) := by decide +kernel
theorem dX8_laysAllowed_84 : decode cX8_laysAllowed 84 = .ok (.ifCond .ge 6, 3) := by decide +kernel
theorem dX8_laysAllowed_87 : decode cX8_laysAllowed 87 = .ok (.ldc 130, 2) := by decide +kernel
theorem dX8_laysAllowed_89 : decode cX8_laysAllowed 89 = .ok (.ireturn, 1) := by decide +kernel
theorem dX8_laysAllowed_90 : decode cX8_laysAllowed 90 = .ok (.iload_n 3, 1) := by decide +kernel
theorem dX8_laysAllowed_91 : decode cX8_laysAllowed 91 = .ok (.istore 4, 2) := by decide +kernel
theorem dX8_laysAllowed_93 : decode cX8_laysAllowed 93 = .ok (.iload 4, 2) := by decide +kernel
theorem dX8_laysAllowed_95 : decode cX8_laysAllowed 95 = .ok (.iconst (-1), 1) := by decide +kernel
theorem dX8_laysAllowed_96 : decode cX8_laysAllowed 96 = .ok (.if_icmp .eq 35, 3) := by decide +kernel
theorem dX8_laysAllowed_99 : decode cX8_laysAllowed 99 = .ok (.aload_n 0, 1) := by decide +kernel
theorem dX8_laysAllowed_100 : decode cX8_laysAllowed 100 = .ok (.getfield 87, 3) := by decide +kernel
theorem dX8_laysAllowed_103 : decode cX8_laysAllowed 103 = .ok (.aload_n 0, 1) := by decide +kernel
theorem dX8_laysAllowed_104 : decode cX8_laysAllowed 104 = .ok (.getfield 227, 3) := by decide +kernel
theorem dX8_laysAllowed_107 : decode cX8_laysAllowed 107 = .ok (.iload 4, 2) := by decide +kernel
theorem dX8_laysAllowed_109 : decode cX8_laysAllowed 109 = .ok (.iastore, 1) := by decide +kernel
theorem dX8_laysAllowed_110 : decode cX8_laysAllowed 110 = .ok (.aload_n 0, 1) := by decide +kernel
theorem dX8_laysAllowed_111 : decode cX8_laysAllowed 111 = .ok (.dup, 1) := by decide +kernel
theorem dX8_laysAllowed_112 : decode cX8_laysAllowed 112 = .ok (.getfield 227, 3) := by decide +kernel
theorem dX8_laysAllowed_115 : decode cX8_laysAllowed 115 = .ok (.iconst 1, 1) := by decide +kernel
theorem dX8_laysAllowed_116 : decode cX8_laysAllowed 116 = .ok (.iadd, 1) := by decide +kernel
theorem dX8_laysAllowed_117 : decode cX8_laysAllowed 117 = .ok (.putfield 227, 3) := by decide +kernel
theorem dX8_laysAllowed_120 : decode cX8_laysAllowed 120 = .ok (.aload_n 0, 1) := by decide +kernel
theorem dX8_laysAllowed_121 : decode cX8_laysAllowed 121 = .ok (.iload 4, 2) := by decide +kernel
theorem dX8_laysAllowed_123 : decode cX8_laysAllowed 123 = .ok (.invokevirtual 233, 3) := by decide +kernel
theorem dX8_laysAllowed_126 : decode cX8_laysAllowed 126 = .ok (.istore 4, 2) := by decide +kernel
theorem dX8_laysAllowed_128 : decode cX8_laysAllowed 128 = .ok (.goto (-35), 3) := by decide +kernel
theorem dX8_laysAllowed_131 : decode cX8_laysAllowed 131 = .ok (.aload_n 0, 1) := by decide +kernel
theorem dX8_laysAllowed_132 : decode cX8_laysAllowed 132 = .ok (.getfield 84, 3) := by decide +kernel
theorem dX8_laysAllowed_135 : decode cX8_laysAllowed 135 = .ok (.iload_n 3, 1) := by decide +kernel
theorem dX8_laysAllowed_136 : decode cX8_laysAllowed 136 = .ok (.iaload, 1) := by decide +kernel
theorem dX8_laysAllowed_137 : decode cX8_laysAllowed 137 = .ok (.ireturn, 1) := by decide +kernel
theorem dX8_nextOf_0 : decode cX8_nextOf 0 = .ok (.aload_n 0, 1) := by decide +kernel
theorem dX8_nextOf_1 : decode cX8_nextOf 1 = .ok (.getfield 84, 3) := by decide +kernel
theorem dX8_nextOf_4 : decode cX8_nextOf 4 = .ok (.iload_n 1, 1) := by decide +kernel
theorem dX8_nextOf_5 : decode cX8_nextOf 5 = .ok (.iaload, 1) := by decide +kernel
theorem dX8_nextOf_6 : decode cX8_nextOf 6 = .ok (.aload_n 0, 1) := by decide +kernel
theorem dX8_nextOf_7 : decode cX8_nextOf 7 = .ok (.getfield 20, 3) := by decide +kernel
theorem dX8_nextOf_10 : decode cX8_nextOf 10 = .ok (.iload_n 1, 1) := by decide +kernel
theorem dX8_nextOf_11 : decode cX8_nextOf 11 = .ok (.iaload, 1) := by decide +kernel
theorem dX8_nextOf_12 : decode cX8_nextOf 12 = .ok (.isub, 1) := by decide +kernel
theorem dX8_nextOf_13 : decode cX8_nextOf 13 = .ok (.istore_n 2, 1) := by decide +kernel
theorem dX8_nextOf_14 : decode cX8_nextOf 14 = .ok (.iconst 0, 1) := by decide +kernel
theorem dX8_nextOf_15 : decode cX8_nextOf 15 = .ok (.istore_n 3, 1) := by decide +kernel
theorem dX8_nextOf_16 : decode cX8_nextOf 16 = .ok (.iload_n 3, 1) := by decide +kernel
theorem dX8_nextOf_17 : decode cX8_nextOf 17 = .ok (.aload_n 0, 1) := by decide +kernel
theorem dX8_nextOf_18 : decode cX8_nextOf 18 = .ok (.getfield 105, 3) := by decide +kernel
theorem dX8_nextOf_21 : decode cX8_nextOf 21 = .ok (.if_icmp .ge 34, 3) := by decide +kernel
theorem dX8_nextOf_24 : decode cX8_nextOf 24 = .ok (.iload_n 2, 1) := by decide +kernel
theorem dX8_nextOf_25 : decode cX8_nextOf 25 = .ok (.ifCond .le 30, 3) := by decide +kernel
theorem dX8_nextOf_28 : decode cX8_nextOf 28 = .ok (.aload_n 0, 1) := by decide +kernel
theorem dX8_nextOf_29 : decode cX8_nextOf 29 = .ok (.iload_n 1, 1) := by decide +kernel
theorem dX8_nextOf_30 : decode cX8_nextOf 30 = .ok (.iload_n 3, 1) := by decide +kernel
theorem dX8_nextOf_31 : decode cX8_nextOf 31 = .ok (.invokevirtual 224, 3) := by decide +kernel
theorem dX8_nextOf_34 : decode cX8_nextOf 34 = .ok (.ifCond .eq 15, 3) := by decide +kernel
theorem dX8_nextOf_37 : decode cX8_nextOf 37 = .ok (.aload_n 0, 1) := by decide +kernel
theorem dX8_nextOf_38 : decode cX8_nextOf 38 = .ok (.getfield 84, 3) := by decide +kernel
theorem dX8_nextOf_41 : decode cX8_nextOf 41 = .ok (.iload_n 3, 1) := by decide +kernel
theorem dX8_nextOf_42 : decode cX8_nextOf 42 = .ok (.iaload, 1) := by decide +kernel
theorem dX8_nextOf_43 : decode cX8_nextOf 43 = .ok (.iload_n 2, 1) := by decide +kernel
theorem dX8_nextOf_44 : decode cX8_nextOf 44 = .ok (.if_icmp .ne 5, 3) := by decide +kernel
theorem dX8_nextOf_47 : decode cX8_nextOf 47 = .ok (.iload_n 3, 1) := by decide +kernel
theorem dX8_nextOf_48 : decode cX8_nextOf 48 = .ok (.ireturn, 1) := by decide +kernel
theorem dX8_nextOf_49 : decode cX8_nextOf 49 = .ok (.iinc 3 1, 3) := by decide +kernel
theorem dX8_nextOf_52 : decode cX8_nextOf 52 = .ok (.goto (-36), 3) := by decide +kernel
theorem dX8_nextOf_55 : decode cX8_nextOf 55 = .ok (.iconst (-1), 1) := by decide +kernel
theorem dX8_nextOf_56 : decode cX8_nextOf 56 = .ok (.ireturn, 1) := by decide +kernel
theorem dX8_errorOfAllowed_0 : decode cX8_errorOfAllowed 0 = .ok (.aload_n 0, 1) := by decide +kernel
theorem dX8_errorOfAllowed_1 : decode cX8_errorOfAllowed 1 = .ok (.iload_n 1, 1) := by decide +kernel
theorem dX8_errorOfAllowed_2 : decode cX8_errorOfAllowed 2 = .ok (.iload_n 2, 1) := by decide +kernel
theorem dX8_errorOfAllowed_3 : decode cX8_errorOfAllowed 3 = .ok (.invokevirtual 101, 3) := by decide +kernel
theorem dX8_errorOfAllowed_6 : decode cX8_errorOfAllowed 6 = .ok (.ifCond .ne 7, 3) := by decide +kernel
theorem dX8_errorOfAllowed_9 : decode cX8_errorOfAllowed 9 = .ok (.iconst 1, 1) := by decide +kernel
theorem dX8_errorOfAllowed_10 : decode cX8_errorOfAllowed 10 = .ok (.goto 19, 3) := by decide +kernel
theorem dX8_errorOfAllowed_13 : decode cX8_errorOfAllowed 13 = .ok (.aload_n 0, 1) := by decide +kernel
theorem dX8_errorOfAllowed_14 : decode cX8_errorOfAllowed 14 = .ok (.iload_n 1, 1) := by decide +kernel
theorem dX8_errorOfAllowed_15 : decode cX8_errorOfAllowed 15 = .ok (.iload_n 2, 1) := by decide +kernel
theorem dX8_errorOfAllowed_16 : decode cX8_errorOfAllowed 16 = .ok (.invokevirtual 237, 3) := by decide +kernel
theorem dX8_errorOfAllowed_19 : decode cX8_errorOfAllowed 19 = .ok (.ldc 130, 2) := by decide +kernel
theorem dX8_errorOfAllowed_21 : decode cX8_errorOfAllowed 21 = .ok (.if_icmp .ne 7, 3) := by decide +kernel
theorem dX8_errorOfAllowed_24 : decode cX8_errorOfAllowed 24 = .ok (.iconst 2, 1) := by decide +kernel
theorem dX8_errorOfAllowed_25 : decode cX8_errorOfAllowed 25 = .ok (.goto 4, 3) := by decide +kernel
theorem dX8_errorOfAllowed_28 : decode cX8_errorOfAllowed 28 = .ok (.iconst 0, 1) := by decide +kernel
theorem dX8_errorOfAllowed_29 : decode cX8_errorOfAllowed 29 = .ok (.ireturn, 1) := by decide +kernel
theorem dX8_allowedLength_0 : decode cX8_allowedLength 0 = .ok (.aload_n 0, 1) := by decide +kernel
theorem dX8_allowedLength_1 : decode cX8_allowedLength 1 = .ok (.aload_n 0, 1) := by decide +kernel
theorem dX8_allowedLength_2 : decode cX8_allowedLength 2 = .ok (.iload_n 1, 1) := by decide +kernel
theorem dX8_allowedLength_3 : decode cX8_allowedLength 3 = .ok (.iload_n 2, 1) := by decide +kernel
theorem dX8_allowedLength_4 : decode cX8_allowedLength 4 = .ok (.invokevirtual 240, 3) := by decide +kernel
theorem dX8_allowedLength_7 : decode cX8_allowedLength 7 = .ok (.invokevirtual 115, 3) := by decide +kernel
theorem dX8_allowedLength_10 : decode cX8_allowedLength 10 = .ok (.ifCond .eq 12, 3) := by decide +kernel
theorem dX8_allowedLength_13 : decode cX8_allowedLength 13 = .ok (.aload_n 0, 1) := by decide +kernel
theorem dX8_allowedLength_14 : decode cX8_allowedLength 14 = .ok (.iload_n 1, 1) := by decide +kernel
theorem dX8_allowedLength_15 : decode cX8_allowedLength 15 = .ok (.iload_n 2, 1) := by decide +kernel
theorem dX8_allowedLength_16 : decode cX8_allowedLength 16 = .ok (.invokevirtual 237, 3) := by decide +kernel
theorem dX8_allowedLength_19 : decode cX8_allowedLength 19 = .ok (.goto 4, 3) := by decide +kernel
theorem dX8_allowedLength_22 : decode cX8_allowedLength 22 = .ok (.iconst 0, 1) := by decide +kernel
theorem dX8_allowedLength_23 : decode cX8_allowedLength 23 = .ok (.ireturn, 1) := by decide +kernel
theorem dX8_allowedEdges_0 : decode cX8_allowedEdges 0 = .ok (.aload_n 0, 1) := by decide +kernel
theorem dX8_allowedEdges_1 : decode cX8_allowedEdges 1 = .ok (.aload_n 0, 1) := by decide +kernel
theorem dX8_allowedEdges_2 : decode cX8_allowedEdges 2 = .ok (.iload_n 1, 1) := by decide +kernel
theorem dX8_allowedEdges_3 : decode cX8_allowedEdges 3 = .ok (.iload_n 2, 1) := by decide +kernel
theorem dX8_allowedEdges_4 : decode cX8_allowedEdges 4 = .ok (.invokevirtual 240, 3) := by decide +kernel
theorem dX8_allowedEdges_7 : decode cX8_allowedEdges 7 = .ok (.invokevirtual 115, 3) := by decide +kernel
theorem dX8_allowedEdges_10 : decode cX8_allowedEdges 10 = .ok (.ifCond .eq 10, 3) := by decide +kernel
theorem dX8_allowedEdges_13 : decode cX8_allowedEdges 13 = .ok (.aload_n 0, 1) := by decide +kernel
theorem dX8_allowedEdges_14 : decode cX8_allowedEdges 14 = .ok (.getfield 227, 3) := by decide +kernel
theorem dX8_allowedEdges_17 : decode cX8_allowedEdges 17 = .ok (.goto 4, 3) := by decide +kernel
theorem dX8_allowedEdges_20 : decode cX8_allowedEdges 20 = .ok (.iconst 0, 1) := by decide +kernel
theorem dX8_allowedEdges_21 : decode cX8_allowedEdges 21 = .ok (.ireturn, 1) := by decide +kernel
theorem dX8_allowedEdge_0 : decode cX8_allowedEdge 0 = .ok (.aload_n 0, 1) := by decide +kernel
theorem dX8_allowedEdge_1 : decode cX8_allowedEdge 1 = .ok (.aload_n 0, 1) := by decide +kernel
theorem dX8_allowedEdge_2 : decode cX8_allowedEdge 2 = .ok (.iload_n 1, 1) := by decide +kernel
theorem dX8_allowedEdge_3 : decode cX8_allowedEdge 3 = .ok (.iload_n 2, 1) := by decide +kernel
theorem dX8_allowedEdge_4 : decode cX8_allowedEdge 4 = .ok (.invokevirtual 240, 3) := by decide +kernel
theorem dX8_allowedEdge_7 : decode cX8_allowedEdge 7 = .ok (.invokevirtual 115, 3) := by decide +kernel
theorem dX8_allowedEdge_10 : decode cX8_allowedEdge 10 = .ok (.ifCond .ne 5, 3) := by decide +kernel
theorem dX8_allowedEdge_13 : decode cX8_allowedEdge 13 = .ok (.iconst 0, 1) := by decide +kernel
theorem dX8_allowedEdge_14 : decode cX8_allowedEdge 14 = .ok (.ireturn, 1) := by decide +kernel
theorem dX8_allowedEdge_15 : decode cX8_allowedEdge 15 = .ok (.aload_n 0, 1) := by decide +kernel
theorem dX8_allowedEdge_16 : decode cX8_allowedEdge 16 = .ok (.iload_n 3, 1) := by decide +kernel
theorem dX8_allowedEdge_17 : decode cX8_allowedEdge 17 = .ok (.iconst 0, 1) := by decide +kernel
theorem dX8_allowedEdge_18 : decode cX8_allowedEdge 18 = .ok (.aload_n 0, 1) := by decide +kernel
theorem dX8_allowedEdge_19 : decode cX8_allowedEdge 19 = .ok (.getfield 227, 3) := by decide +kernel
theorem dX8_allowedEdge_22 : decode cX8_allowedEdge 22 = .ok (.iconst 1, 1) := by decide +kernel
theorem dX8_allowedEdge_23 : decode cX8_allowedEdge 23 = .ok (.isub, 1) := by decide +kernel
theorem dX8_allowedEdge_24 : decode cX8_allowedEdge 24 = .ok (.invokestatic 93, 3) := by decide +kernel
theorem dX8_allowedEdge_27 : decode cX8_allowedEdge 27 = .ok (.ifCond .eq 7, 3) := by decide +kernel
theorem dX8_allowedEdge_30 : decode cX8_allowedEdge 30 = .ok (.iconst 0, 1) := by decide +kernel
theorem dX8_allowedEdge_31 : decode cX8_allowedEdge 31 = .ok (.goto 4, 3) := by decide +kernel
theorem dX8_allowedEdge_34 : decode cX8_allowedEdge 34 = .ok (.iconst 2, 1) := by decide +kernel
theorem dX8_allowedEdge_35 : decode cX8_allowedEdge 35 = .ok (.invokevirtual 115, 3) := by decide +kernel
theorem dX8_allowedEdge_38 : decode cX8_allowedEdge 38 = .ok (.ifCond .eq 12, 3) := by decide +kernel
theorem dX8_allowedEdge_41 : decode cX8_allowedEdge 41 = .ok (.aload_n 0, 1) := by decide +kernel
theorem dX8_allowedEdge_42 : decode cX8_allowedEdge 42 = .ok (.getfield 87, 3) := by decide +kernel
theorem dX8_allowedEdge_45 : decode cX8_allowedEdge 45 = .ok (.iload_n 3, 1) := by decide +kernel
theorem dX8_allowedEdge_46 : decode cX8_allowedEdge 46 = .ok (.iaload, 1) := by decide +kernel
theorem dX8_allowedEdge_47 : decode cX8_allowedEdge 47 = .ok (.goto 4, 3) := by decide +kernel
theorem dX8_allowedEdge_50 : decode cX8_allowedEdge 50 = .ok (.iconst 0, 1) := by decide +kernel
theorem dX8_allowedEdge_51 : decode cX8_allowedEdge 51 = .ok (.ireturn, 1) := by decide +kernel
end
section
/-! ===== the flat store: every object of the system has a number; what its slots hold is a function of that number ===== -/
abbrev jv_S : Type := (Nat → Nat → Int32) × (Nat → Nat → Int64)
/-- an object: its class's place in vwCl and its fields (0 an int, 1 a long, r + 2 the object r), or an array: its kind (0 int, 1 boolean, 2 long) and its length -/
abbrev jv_O : Type := (Nat × List Nat) ⊕ (Nat × Nat)
/-- where the world lies: the tables, the objects' addresses, the array classes, the heap's size before it was made -/
abbrev jv_G : Type := va_G × (Nat → Nat) × (ClassId × ClassId × ClassId) × Nat
def jv_cv (G : jv_G) : Value → Value
  | .ref k => .ref (G.2.1 k)
  | v => v
def jv_fa (σ : jv_S) (k j c : Nat) : Value := match c with
  | 0 => .int (σ.1 k j)
  | 1 => .long (σ.2 k j)
  | r + 2 => .ref r
def jv_en (G : jv_G) (σ : jv_S) (k : Nat) (o : jv_O) : va_E := match o with
  | .inl (ci, fc) => .inr (ci, fc.mapIdx (fun j c => jv_cv G (jv_fa σ k j c)))
  | .inr (0, n) => .inl (G.2.2.1.1, n, .inl (σ.1 k))
  | .inr (1, n) => .inl (G.2.2.1.2.1, n, .inl (σ.1 k))
  | .inr (_, n) => .inl (G.2.2.1.2.2, n, .inr (.inl (σ.2 k)))
def jv_ws (G : jv_G) (os : List jv_O) (σ : jv_S) : va_W := os.mapIdx (fun k o => (G.2.1 k, jv_en G σ k o))
/-- one row of the store anew -/
def jv_u {α : Type} (f : Nat → α) (k : Nat) (r : α) : Nat → α := fun k' => if k' = k then r else f k'
def jv_si (σ : jv_S) (k j : Nat) (x : Int32) : jv_S := (jv_u σ.1 k (upd (σ.1 k) j x), σ.2)
def jv_sl (σ : jv_S) (k j : Nat) (x : Int64) : jv_S := (σ.1, jv_u σ.2 k (vp_updL (σ.2 k) j x))
/-- the good words of the tables -/
def jv_WS : List Cond := lw_tbl.filter goodWord
def jv_nest : Cond → Bool
  | .methodLinkNest .. => true
  | .castable .. => true
  | .declares _ => true
  | _ => false
theorem jv_w {w : Cond} (h : w ∈ lw_tbl) (g : goodWord w = true) : w ∈ jv_WS := List.mem_filter.mpr ⟨h, g⟩
theorem jv_wg {w : Cond} (h : w ∈ jv_WS) : (w.onTables && w.keeps) = true ∨ ∃ ty, w = .arrayClass ty := good_of_word (List.mem_filter.mp h).2
theorem jv_tb {w : Cond} (i : Nat) (h : tables_1[i]? = some w) : w ∈ lw_tbl := List.mem_append_right _ (List.mem_of_getElem? h)
def jv_tys (G : jv_G) : List (ClassId × FieldType) := [(G.2.2.1.1, .int), (G.2.2.1.2.1, .boolean), (G.2.2.1.2.2, .long)]
abbrev jv_A (G : jv_G) : Nat → Prop := fun q => G.2.2.2 ≤ q
/-- String constants of the throws: (place in the class's pool, text) -/
def jv_ncs : List (String × String) := [("java/lang/IllegalStateException", "java/lang/IllegalArgumentException"), ("java/util/NoSuchElementException", "java/lang/IllegalArgumentException"), ("java/util/NoSuchElementException", "java/lang/IllegalStateException")]
/-- what the tables say beyond the good words: links of nest mates, casts, String constants; stable -/
def jv_X (G : jv_G) (strs : List (Nat × String)) (U : State) : Prop :=
  va_K G.1 vwCl (jv_tys G) U ∧ (∀ w ∈ lw_tbl, jv_nest w = true → va_Nw w U) ∧ (∀ q ∈ jv_ncs, va_Nc q.1 q.2 U) ∧ ∀ q ∈ strs, ∃ sa, vk_R RX7 q.1 q.2 sa U
/-- the two statics of Throwable -/
def jv_Z (G : jv_G) (U : State) (H : Heap) : Prop := vx_Zq Bundle.tN "UNASSIGNED_STACK" Bundle.steD (jv_A G) U H ∧ vx_Zq Bundle.tN "SUPPRESSED_SENTINEL" Bundle.listD (jv_A G) U H
/-- the addresses are apart, and new -/
def jv_D (G : jv_G) (os : List jv_O) : Prop := (∀ i j, i < os.length → j < os.length → G.2.1 i = G.2.1 j → i = j) ∧ ∀ i, i < os.length → G.2.2.2 ≤ G.2.1 i
def jv_I (G : jv_G) (os : List jv_O) (strs : List (Nat × String)) (σ : jv_S) (U : State) : Prop :=
  jv_X G strs U ∧ jv_Z G U U.heap ∧ va_P G.1 vwCl (jv_ws G os σ) U.heap ∧ jv_D G os ∧ G.2.2.2 ≤ U.heap.size
theorem jv_nest_warm {w : Cond} (hn : jv_nest w = true) {s U : State} (hW : s.WarmedH U.vm) (h : va_Nw w s) : va_Nw w U := by
  cases w <;> first | exact va_Nw.warmM hW h | exact va_Nw.warmC hW h | exact va_tabs rfl (rfl : (s.setVm U.vm).vm = U.vm) (by rw [Cond.declares_setVm hW.alike]; exact h) | cases hn
theorem jv_X.warm {G : jv_G} {strs : List (Nat × String)} {s U : State} (hW : s.WarmedH U.vm) (h : jv_X G strs s) : jv_X G strs U := by
  obtain ⟨h1, h2, h3, h4⟩ := h
  refine ⟨h1.moved hW.alike, fun w hw hn => jv_nest_warm hn hW (h2 w hw hn), fun q hq => (h3 q hq).moved hW.alike, fun q hq => ?_⟩
  obtain ⟨sa, h⟩ := h4 q hq
  exact ⟨sa, h.warm hW⟩
theorem jv_Z.warm {G : jv_G} {s U : State} {H0 H : Heap} {locs : List Loc} (hA : s.vm.Alike U.vm) (hS : va_S (jv_A G) H0 H locs) (h : jv_Z G s H0) : jv_Z G U H :=
  ⟨vx_Zq.moved hA (h.1.kept hS.2.1), vx_Zq.moved hA (h.2.kept hS.2.1)⟩
theorem jv_I.blind {G : jv_G} {os : List jv_O} {strs : List (Nat × String)} {σ : jv_S} {U : State} {g : JFrame} {mk : MethodId} {a : Array Value} (h : jv_I G os strs σ U) : jv_I G os strs σ (U.calling g mk a) := by
  obtain ⟨h1, h2, h3, h4, h5⟩ := h
  have hv : (U.calling g mk a).vm = U.vm := rfl
  refine ⟨?_, ⟨vx_Zq.moved (Vm.Alike.refl U.vm) h2.1, vx_Zq.moved (Vm.Alike.refl U.vm) h2.2⟩, h3, h4, h5⟩
  exact h1.warm (State.WarmedH.refl U)
theorem jv_D.va {G : jv_G} {os : List jv_O} {σ : jv_S} (h : jv_D G os) : va_D (jv_A G) (jv_ws G os σ) := by
  refine ⟨fun i j p q hp hq e => ?_, fun k q hq => ?_⟩
  · simp only [jv_ws, List.getElem?_mapIdx, Option.map_eq_some_iff] at hp hq
    obtain ⟨a, h1, rfl⟩ := hp
    obtain ⟨b, h2, rfl⟩ := hq
    exact h.1 i j (List.getElem?_eq_some_iff.mp h1).1 (List.getElem?_eq_some_iff.mp h2).1 e
  · simp only [jv_ws, List.getElem?_mapIdx, Option.map_eq_some_iff] at hq
    obtain ⟨a, h1, rfl⟩ := hq
    exact h.2 k (List.getElem?_eq_some_iff.mp h1).1
theorem jv_ws_at {G : jv_G} {os : List jv_O} {σ : jv_S} {k : Nat} {o : jv_O} (h : os[k]? = some o) : (jv_ws G os σ)[k]? = some (G.2.1 k, jv_en G σ k o) := by
  simp [jv_ws, List.getElem?_mapIdx, h]
/-- the world of a store changed in one object -/
theorem jv_ws_set {G : jv_G} {os : List jv_O} {σ τ : jv_S} {k : Nat} {o : jv_O} {x : va_E} (h : os[k]? = some o) (hx : jv_en G τ k o = x) (h1 : ∀ k', k' ≠ k → τ.1 k' = σ.1 k') (h2 : ∀ k', k' ≠ k → τ.2 k' = σ.2 k') :
    (jv_ws G os σ).set k (G.2.1 k, x) = jv_ws G os τ := by
  apply List.ext_getElem?
  intro i
  rw [List.getElem?_set]
  by_cases e : k = i
  · subst e
    have hl : k < os.length := (List.getElem?_eq_some_iff.mp h).1
    have hl2 : k < (jv_ws G os σ).length := by simpa [jv_ws] using hl
    rw [if_pos rfl, if_pos hl2, jv_ws_at h, hx]
  · rw [if_neg e]
    simp only [jv_ws, List.getElem?_mapIdx]
    cases ho : os[i]? with
    | none => rfl
    | some q =>
      have e1 := h1 i (Ne.symm e)
      have e2 := h2 i (Ne.symm e)
      simp only [Option.map_some, Option.some.injEq, Prod.mk.injEq, true_and]
      have e3 : ∀ j c, jv_fa σ i j c = jv_fa τ i j c := by
        intro j c
        match c with
        | 0 => simp [jv_fa, e1]
        | 1 => simp [jv_fa, e2]
        | r + 2 => rfl
      match q with
      | .inl (ci, fc) => simp only [jv_en, e3]
      | .inr (0, n) => simp only [jv_en, e1]
      | .inr (1, n) => simp only [jv_en, e1]
      | .inr (n + 2, _) => simp only [jv_en, e2]
/-! the locals, by places -/
def jv_lst (G : jv_G) : Nat → List (Option Value) → List (Nat × Value)
  | _, [] => []
  | n, none :: t => jv_lst G (n + 1) t
  | n, some v :: t => (n, jv_cv G v) :: jv_lst G (n + 1) t
theorem jv_lst_mem {G : jv_G} (L : List (Option Value)) : ∀ (n : Nat) (q : Nat × Value), q ∈ jv_lst G n L ↔ ∃ i v, q = (n + i, jv_cv G v) ∧ L[i]? = some (some v) := by
  induction L with
  | nil => intro n q; simp [jv_lst]
  | cons x t ih =>
    intro n q
    have key : q ∈ jv_lst G (n + 1) t ↔ ∃ i v, q = (n + (i + 1), jv_cv G v) ∧ (x :: t)[i + 1]? = some (some v) := by
      rw [ih]
      simp only [List.getElem?_cons_succ, Nat.add_assoc, Nat.add_comm 1]
    cases x with
    | none =>
      rw [show jv_lst G n (none :: t) = jv_lst G (n + 1) t from rfl, key]
      constructor
      · rintro ⟨i, v, h1, h2⟩; exact ⟨i + 1, v, h1, h2⟩
      · rintro ⟨i, v, h1, h2⟩
        cases i with
        | zero => simp at h2
        | succ i => exact ⟨i, v, h1, h2⟩
    | some y =>
      rw [show jv_lst G n (some y :: t) = (n, jv_cv G y) :: jv_lst G (n + 1) t from rfl, List.mem_cons, key]
      constructor
      · rintro (h | ⟨i, v, h1, h2⟩)
        · exact ⟨0, y, h, rfl⟩
        · exact ⟨i + 1, v, h1, h2⟩
      · rintro ⟨i, v, h1, h2⟩
        cases i with
        | zero =>
          simp at h2
          subst h2
          exact Or.inl h1
        | succ i => exact Or.inr ⟨i, v, h1, h2⟩
theorem jv_cv_cat {G : jv_G} (v : Value) : (jv_cv G v).category = v.category := by cases v <;> rfl
theorem jv_at {G : jv_G} {ls : Array Slot} {nL i : Nat} {L : List (Option Value)} {v : Value} (h : lv_has ls nL (jv_lst G 0 L)) (hi : L[i]? = some (some v)) : ls[i]? = some (.val (jv_cv G v)) := by
  have := h.2.2 (i, jv_cv G v) ((jv_lst_mem L 0 _).mpr ⟨i, v, by rw [Nat.zero_add], hi⟩)
  exact this
/-- no long stands just below the place -/
def jv_nl (L : List (Option Value)) (i : Nat) : Bool := match i with
  | 0 => true
  | i + 1 => match L[i]? with
    | some (some (.long _)) => false
    | some (some (.double _)) => false
    | _ => true
theorem jv_nl_spec {L : List (Option Value)} {i j : Nat} {v : Value} (h : jv_nl L i = true) (hj : L[j]? = some (some v)) (e : j + 1 = i) : v.category ≠ 2 := by
  subst e
  simp only [jv_nl, hj] at h
  cases v <;> simp_all [Value.category]
theorem jv_set1 {G : jv_G} {ls : Array Slot} {nL i : Nat} {L : List (Option Value)} {v : Value} (hc : v.category = 1) (hl : jv_nl L i = true)
    (h : lv_has ls nL ((i, jv_cv G v) :: (jv_lst G 0 L).filter (fun q => !(q.1 == i) && !(q.1 + 1 == i && q.2.category == 2)))) : lv_has ls nL (jv_lst G 0 (L.set i (some v))) := by
  refine ⟨h.1, h.2.1, fun q hq => h.2.2 q ?_⟩
  obtain ⟨j, w, rfl, hj⟩ := (jv_lst_mem _ 0 _).mp hq
  rw [Nat.zero_add] at *
  rw [List.getElem?_set] at hj
  by_cases e : i = j
  · subst e
    rw [if_pos rfl] at hj
    by_cases hlt : i < L.length
    · rw [if_pos hlt] at hj
      cases hj
      exact List.mem_cons_self
    · rw [if_neg hlt] at hj; cases hj
  · rw [if_neg e] at hj
    refine List.mem_cons_of_mem _ (List.mem_filter.mpr ⟨(jv_lst_mem L 0 _).mpr ⟨j, w, by rw [Nat.zero_add], hj⟩, ?_⟩)
    have h1 : (j == i) = false := by simpa using (fun z => e z.symm)
    have h2 : (j + 1 == i && (jv_cv G w).category == 2) = false := by
      by_cases e2 : j + 1 = i
      · have := jv_nl_spec hl hj e2
        rw [jv_cv_cat]
        simp [this]
      · simp [e2]
    simp only [h1, h2]
    rfl
theorem jv_set2 {G : jv_G} {ls : Array Slot} {nL i : Nat} {L : List (Option Value)} {x : Int64} (hl : jv_nl L i = true)
    (h : lv_has ls nL ((i, .long x) :: (jv_lst G 0 L).filter (fun q => !(q.1 == i) && (!(q.1 == i + 1) && !(q.1 + 1 == i && q.2.category == 2))))) : lv_has ls nL (jv_lst G 0 ((L.set i (some (.long x))).set (i + 1) none)) := by
  refine ⟨h.1, h.2.1, fun q hq => h.2.2 q ?_⟩
  obtain ⟨j, w, rfl, hj⟩ := (jv_lst_mem _ 0 _).mp hq
  rw [Nat.zero_add] at *
  rw [List.getElem?_set] at hj
  by_cases e0 : i + 1 = j
  · rw [if_pos e0] at hj
    split at hj <;> cases hj
  · rw [if_neg e0, List.getElem?_set] at hj
    by_cases e : i = j
    · subst e
      rw [if_pos rfl] at hj
      by_cases hlt : i < L.length
      · rw [if_pos hlt] at hj
        cases hj
        exact List.mem_cons_self
      · rw [if_neg hlt] at hj; cases hj
    · rw [if_neg e] at hj
      refine List.mem_cons_of_mem _ (List.mem_filter.mpr ⟨(jv_lst_mem L 0 _).mpr ⟨j, w, by rw [Nat.zero_add], hj⟩, ?_⟩)
      have h1 : (j == i) = false := by simpa using (fun z => e z.symm)
      have h0 : (j == i + 1) = false := by simpa using (fun z => e0 z.symm)
      have h2 : (j + 1 == i && (jv_cv G w).category == 2) = false := by
        by_cases e2 : j + 1 = i
        · have := jv_nl_spec hl hj e2
          rw [jv_cv_cat]
          simp [this]
        · simp [e2]
      simp only [h1, h0, h2]
      rfl
/-- a method's locals at its entry -/
def jv_args : List Value → List (Option Value)
  | [] => []
  | v :: t => if v.category = 2 then some v :: none :: jv_args t else some v :: jv_args t
theorem jv_args_lst {G : jv_G} (vs : List Value) : ∀ n, jv_lst G n (jv_args vs) = lv_args n (vs.map (jv_cv G)) := by
  induction vs with
  | nil => intro n; rfl
  | cons v t ih =>
    intro n
    by_cases hc : v.category = 2
    · simp [jv_args, hc, jv_lst, lv_args, jv_cv_cat, ih]
    · simp [jv_args, hc, jv_lst, lv_args, jv_cv_cat, ih]
theorem jv_lst_none {G : jv_G} (L : List (Option Value)) (k : Nat) : ∀ n, jv_lst G n (L ++ List.replicate k none) = jv_lst G n L := by
  induction L with
  | nil =>
    intro n
    induction k generalizing n with
    | zero => rfl
    | succ k ih => exact ih (n + 1)
  | cons x t ih =>
    intro n
    cases x with
    | none => exact ih (n + 1)
    | some v => show _ :: jv_lst G (n + 1) (t ++ _) = _ :: _; rw [ih]
end
section
/-! ===== the objects of this system ===== -/
def jv_os : List jv_O := [
  .inl (7, [3, 10, 12, 16, 19, 26, 34, 0, 0]),
  .inl (3, [4, 5, 6, 7, 8, 9, 0, 0, 0, 0]), .inr (0, 24), .inr (0, 24), .inr (0, 24), .inr (0, 24), .inr (0, 24), .inr (0, 11),
  .inl (2, [3, 11]), .inr (0, 10),
  .inl (5, [3, 14, 13, 0, 0, 0, 0, 0, 1]), .inr (2, 16), .inl (2, [3, 15]), .inr (0, 10),
  .inl (4, [3, 17, 0]), .inl (2, [3, 18]), .inr (0, 10),
  .inl (6, [3, 20, 21, 22, 23, 24, 25, 0, 0]), .inr (0, 500), .inr (0, 500), .inr (0, 500), .inr (0, 500), .inr (0, 10), .inr (0, 24),
  .inl (1, [3, 27, 28, 29, 30, 31, 32, 33, 0, 0]), .inr (0, 34), .inr (0, 34), .inr (0, 34), .inr (0, 34), .inr (0, 34), .inr (0, 20), .inr (0, 20),
  .inl (0, [3, 35, 36, 0]), .inr (0, 24), .inr (0, 24),
  .inl (8, [0, 0, 0, 38, 39, 40, 41, 42, 43, 0, 0, 0, 0, 0, 0, 44, 45, 46, 47, 48, 49, 0, 0, 0, 0, 0, 0, 0, 50, 51, 52, 53, 54, 0, 55, 56, 57, 58, 0, 59, 60, 61, 62, 0]),
  .inr (0, 24), .inr (0, 24), .inr (0, 24), .inr (1, 24), .inr (1, 10), .inr (1, 576),
  .inr (0, 10), .inr (0, 10), .inr (0, 10), .inr (0, 10), .inr (0, 10), .inr (0, 10),
  .inr (0, 512), .inr (0, 500), .inr (0, 10), .inr (0, 1202), .inr (0, 1202),
  .inr (0, 68), .inr (0, 68), .inr (0, 68), .inr (0, 68),
  .inr (0, 20), .inr (0, 20), .inr (0, 24), .inr (0, 24), .inr (2, 1)]
def jv_strs : List (Nat × String) := [(225, "a number is out of range"), (216, "no such node"), (218, "the nodes are the same"), (81, "the network has all its edges"), (223, "no such edge"), (116, "the second edge does not begin where the first one ends"), (234, "there is no such way"), (227, "not started since the network was changed"), (158, "all paths have been drawn"), (229, "none has been drawn since the start"), (231, "it has no such edge"), (188, "no more walks are drawn from one start"), (191, "all walks have been drawn")]
abbrev jv_E : Type := Program × Launch × Env × Room × State × MethodId × Array Value × List Frame × Method × Code × Nat × Nat × (State → Prop) × jv_G
def jv_l (E : jv_E) : Launch := E.2.1
def jv_g (E : jv_E) : jv_G := E.2.2.2.2.2.2.2.2.2.2.2.2.2
def jv_V (E : jv_E) (pc : Nat) (L : List (Option Value)) (st : List Value) (σ : jv_S) : Prop := match E with
  | (p, l, e, R, s, m, args, below, meth, c, cells, slots, Q, G) => ∀ (H : Heap) (locs : List Loc) (ls : Array Slot), va_P G.1 vwCl (jv_ws G jv_os σ) H → va_S (jv_A G) s.heap H locs → lv_has ls c.maxLocals (jv_lst G 0 L) →
      W p l e R s m args below meth c H locs cells slots Q (F0 m pc ls (st.map (jv_cv G)))
def jv_Cx (E : jv_E) (own : String) (cc : ByteArray) (nL d : Nat) : Prop := match E with
  | (p, _, _, R, s, m, args, _, meth, c, cells, slots, _, G) => p.tables.exec = Jvm.exec ∧ c.code = cc ∧ c.maxLocals = nL ∧ s.vm.findClass own = some m.cls ∧ (∀ w ∈ jv_WS, w.before args s = true) ∧ jv_X G jv_strs s ∧ jv_Z G s s.heap ∧ jv_D G jv_os ∧ G.2.2.2 ≤ s.heap.size ∧
      d + 12 ≤ R.frames ∧ 64 * d + 250 ≤ R.locals ∧ cells ≤ R.cells ∧ slots ≤ R.slots
section JVROWS
variable {E : jv_E} {own : String} {cc : ByteArray} {nL d pc pc' : Nat} {L L' : List (Option Value)} {st : List Value} {σ : jv_S}

theorem jv_iadd {x y : Int32} (hc : jv_Cx E own cc nL d) (hd : decode cc pc = .ok (.iadd, 1)) (hp : pc + 1 = pc') (k : jv_V E pc' L (.int (x + y) :: st) σ) : jv_V E pc L (.int y :: .int x :: st) σ := by
  subst hp
  obtain ⟨p, l, e, R, s, m, args, below, meth, c, cells, slots, Q, G⟩ := E
  obtain ⟨hx, hb, hml, hown, hts, hX, hZ, hD, hB, hR⟩ := hc
  subst hml
  intro H locs ls hP hS hl
  exact lv_iadd hx hb hd (k H locs ls hP hS hl)
theorem jv_isub {x y : Int32} (hc : jv_Cx E own cc nL d) (hd : decode cc pc = .ok (.isub, 1)) (hp : pc + 1 = pc') (k : jv_V E pc' L (.int (x - y) :: st) σ) : jv_V E pc L (.int y :: .int x :: st) σ := by
  subst hp
  obtain ⟨p, l, e, R, s, m, args, below, meth, c, cells, slots, Q, G⟩ := E
  obtain ⟨hx, hb, hml, hown, hts, hX, hZ, hD, hB, hR⟩ := hc
  subst hml
  intro H locs ls hP hS hl
  exact lv_isub hx hb hd (k H locs ls hP hS hl)
theorem jv_imul {x y : Int32} (hc : jv_Cx E own cc nL d) (hd : decode cc pc = .ok (.imul, 1)) (hp : pc + 1 = pc') (k : jv_V E pc' L (.int (x * y) :: st) σ) : jv_V E pc L (.int y :: .int x :: st) σ := by
  subst hp
  obtain ⟨p, l, e, R, s, m, args, below, meth, c, cells, slots, Q, G⟩ := E
  obtain ⟨hx, hb, hml, hown, hts, hX, hZ, hD, hB, hR⟩ := hc
  subst hml
  intro H locs ls hP hS hl
  exact lv_imul hx hb hd (k H locs ls hP hS hl)
theorem jv_iand {x y : Int32} (hc : jv_Cx E own cc nL d) (hd : decode cc pc = .ok (.iand, 1)) (hp : pc + 1 = pc') (k : jv_V E pc' L (.int (x &&& y) :: st) σ) : jv_V E pc L (.int y :: .int x :: st) σ := by
  subst hp
  obtain ⟨p, l, e, R, s, m, args, below, meth, c, cells, slots, Q, G⟩ := E
  obtain ⟨hx, hb, hml, hown, hts, hX, hZ, hD, hB, hR⟩ := hc
  subst hml
  intro H locs ls hP hS hl
  exact lv_iand hx hb hd (k H locs ls hP hS hl)
theorem jv_ior {x y : Int32} (hc : jv_Cx E own cc nL d) (hd : decode cc pc = .ok (.ior, 1)) (hp : pc + 1 = pc') (k : jv_V E pc' L (.int (x ||| y) :: st) σ) : jv_V E pc L (.int y :: .int x :: st) σ := by
  subst hp
  obtain ⟨p, l, e, R, s, m, args, below, meth, c, cells, slots, Q, G⟩ := E
  obtain ⟨hx, hb, hml, hown, hts, hX, hZ, hD, hB, hR⟩ := hc
  subst hml
  intro H locs ls hP hS hl
  exact lv_ior hx hb hd (k H locs ls hP hS hl)
theorem jv_ixor {x y : Int32} (hc : jv_Cx E own cc nL d) (hd : decode cc pc = .ok (.ixor, 1)) (hp : pc + 1 = pc') (k : jv_V E pc' L (.int (x ^^^ y) :: st) σ) : jv_V E pc L (.int y :: .int x :: st) σ := by
  subst hp
  obtain ⟨p, l, e, R, s, m, args, below, meth, c, cells, slots, Q, G⟩ := E
  obtain ⟨hx, hb, hml, hown, hts, hX, hZ, hD, hB, hR⟩ := hc
  subst hml
  intro H locs ls hP hS hl
  exact lv_ixor hx hb hd (k H locs ls hP hS hl)
theorem jv_ishl {x y : Int32} (hc : jv_Cx E own cc nL d) (hd : decode cc pc = .ok (.ishl, 1)) (hp : pc + 1 = pc') (k : jv_V E pc' L (.int (x <<< (y &&& 31)) :: st) σ) : jv_V E pc L (.int y :: .int x :: st) σ := by
  subst hp
  obtain ⟨p, l, e, R, s, m, args, below, meth, c, cells, slots, Q, G⟩ := E
  obtain ⟨hx, hb, hml, hown, hts, hX, hZ, hD, hB, hR⟩ := hc
  subst hml
  intro H locs ls hP hS hl
  exact lv_ishl hx hb hd (k H locs ls hP hS hl)
theorem jv_ishr {x y : Int32} (hc : jv_Cx E own cc nL d) (hd : decode cc pc = .ok (.ishr, 1)) (hp : pc + 1 = pc') (k : jv_V E pc' L (.int (x >>> (y &&& 31)) :: st) σ) : jv_V E pc L (.int y :: .int x :: st) σ := by
  subst hp
  obtain ⟨p, l, e, R, s, m, args, below, meth, c, cells, slots, Q, G⟩ := E
  obtain ⟨hx, hb, hml, hown, hts, hX, hZ, hD, hB, hR⟩ := hc
  subst hml
  intro H locs ls hP hS hl
  exact lv_ishr hx hb hd (k H locs ls hP hS hl)
theorem jv_irem {x y : Int32} (hc : jv_Cx E own cc nL d) (hd : decode cc pc = .ok (.irem, 1)) (hp : pc + 1 = pc') (hne : ¬ y = 0) (k : jv_V E pc' L (.int (x - x / y * y) :: st) σ) : jv_V E pc L (.int y :: .int x :: st) σ := by
  subst hp
  obtain ⟨p, l, e, R, s, m, args, below, meth, c, cells, slots, Q, G⟩ := E
  obtain ⟨hx, hb, hml, hown, hts, hX, hZ, hD, hB, hR⟩ := hc
  subst hml
  intro H locs ls hP hS hl
  exact lv_irem hx hb hd hne (k H locs ls hP hS hl)
theorem jv_iushr {x y : Int32} (hc : jv_Cx E own cc nL d) (hd : decode cc pc = .ok (.iushr, 1)) (hp : pc + 1 = pc') (k : jv_V E pc' L (.int ((x.toUInt32 >>> (y.toUInt32 &&& Int32.toUInt32 31)).toInt32) :: st) σ) : jv_V E pc L (.int y :: .int x :: st) σ := by
  subst hp
  obtain ⟨p, l, e, R, s, m, args, below, meth, c, cells, slots, Q, G⟩ := E
  obtain ⟨hx, hb, hml, hown, hts, hX, hZ, hD, hB, hR⟩ := hc
  subst hml
  intro H locs ls hP hS hl
  exact lv_iushr hx hb hd rfl (k H locs ls hP hS hl)
theorem jv_ineg {x : Int32} (hc : jv_Cx E own cc nL d) (hd : decode cc pc = .ok (.ineg, 1)) (hp : pc + 1 = pc') (k : jv_V E pc' L (.int (-x) :: st) σ) : jv_V E pc L (.int x :: st) σ := by
  subst hp
  obtain ⟨p, l, e, R, s, m, args, below, meth, c, cells, slots, Q, G⟩ := E
  obtain ⟨hx, hb, hml, hown, hts, hX, hZ, hD, hB, hR⟩ := hc
  subst hml
  intro H locs ls hP hS hl
  exact lv_ineg hx hb hd (k H locs ls hP hS hl)
theorem jv_lshl {x : Int64} {y : Int32} (hc : jv_Cx E own cc nL d) (hd : decode cc pc = .ok (.lshl, 1)) (hp : pc + 1 = pc') (k : jv_V E pc' L (.long (x <<< (y.toInt64 &&& 63)) :: st) σ) : jv_V E pc L (.int y :: .long x :: st) σ := by
  subst hp
  obtain ⟨p, l, e, R, s, m, args, below, meth, c, cells, slots, Q, G⟩ := E
  obtain ⟨hx, hb, hml, hown, hts, hX, hZ, hD, hB, hR⟩ := hc
  subst hml
  intro H locs ls hP hS hl
  exact lv_lshl hx hb hd rfl (k H locs ls hP hS hl)
theorem jv_lushr {x : Int64} {y : Int32} (hc : jv_Cx E own cc nL d) (hd : decode cc pc = .ok (.lushr, 1)) (hp : pc + 1 = pc') (k : jv_V E pc' L (.long ((x.toUInt64 >>> (y.toInt64.toUInt64 &&& Int64.toUInt64 63)).toInt64) :: st) σ) : jv_V E pc L (.int y :: .long x :: st) σ := by
  subst hp
  obtain ⟨p, l, e, R, s, m, args, below, meth, c, cells, slots, Q, G⟩ := E
  obtain ⟨hx, hb, hml, hown, hts, hX, hZ, hD, hB, hR⟩ := hc
  subst hml
  intro H locs ls hP hS hl
  exact lv_lushr hx hb hd rfl (k H locs ls hP hS hl)
theorem jv_ladd {x y : Int64} (hc : jv_Cx E own cc nL d) (hd : decode cc pc = .ok (.ladd, 1)) (hp : pc + 1 = pc') (k : jv_V E pc' L (.long (x + y) :: st) σ) : jv_V E pc L (.long y :: .long x :: st) σ := by
  subst hp
  obtain ⟨p, l, e, R, s, m, args, below, meth, c, cells, slots, Q, G⟩ := E
  obtain ⟨hx, hb, hml, hown, hts, hX, hZ, hD, hB, hR⟩ := hc
  subst hml
  intro H locs ls hP hS hl
  exact lv_ladd hx hb hd (k H locs ls hP hS hl)
theorem jv_land {x y : Int64} (hc : jv_Cx E own cc nL d) (hd : decode cc pc = .ok (.land, 1)) (hp : pc + 1 = pc') (k : jv_V E pc' L (.long (x &&& y) :: st) σ) : jv_V E pc L (.long y :: .long x :: st) σ := by
  subst hp
  obtain ⟨p, l, e, R, s, m, args, below, meth, c, cells, slots, Q, G⟩ := E
  obtain ⟨hx, hb, hml, hown, hts, hX, hZ, hD, hB, hR⟩ := hc
  subst hml
  intro H locs ls hP hS hl
  exact lv_land hx hb hd (k H locs ls hP hS hl)
theorem jv_lcmp {x y : Int64} (hc : jv_Cx E own cc nL d) (hd : decode cc pc = .ok (.lcmp, 1)) (hp : pc + 1 = pc') (k : jv_V E pc' L (.int (lg_cmp x y) :: st) σ) : jv_V E pc L (.long y :: .long x :: st) σ := by
  subst hp
  obtain ⟨p, l, e, R, s, m, args, below, meth, c, cells, slots, Q, G⟩ := E
  obtain ⟨hx, hb, hml, hown, hts, hX, hZ, hD, hB, hR⟩ := hc
  subst hml
  intro H locs ls hP hS hl
  exact W.lcmp hx hb hd (k H locs ls hP hS hl)
theorem jv_i2l {x : Int32} (hc : jv_Cx E own cc nL d) (hd : decode cc pc = .ok (.i2l, 1)) (hp : pc + 1 = pc') (k : jv_V E pc' L (.long x.toInt64 :: st) σ) : jv_V E pc L (.int x :: st) σ := by
  subst hp
  obtain ⟨p, l, e, R, s, m, args, below, meth, c, cells, slots, Q, G⟩ := E
  obtain ⟨hx, hb, hml, hown, hts, hX, hZ, hD, hB, hR⟩ := hc
  subst hml
  intro H locs ls hP hS hl
  exact lv_i2l hx hb hd rfl (k H locs ls hP hS hl)
theorem jv_l2i {x : Int64} (hc : jv_Cx E own cc nL d) (hd : decode cc pc = .ok (.l2i, 1)) (hp : pc + 1 = pc') (k : jv_V E pc' L (.int x.toInt32 :: st) σ) : jv_V E pc L (.long x :: st) σ := by
  subst hp
  obtain ⟨p, l, e, R, s, m, args, below, meth, c, cells, slots, Q, G⟩ := E
  obtain ⟨hx, hb, hml, hown, hts, hX, hZ, hD, hB, hR⟩ := hc
  subst hml
  intro H locs ls hP hS hl
  exact lv_l2i hx hb hd rfl (k H locs ls hP hS hl)
theorem jv_dup {v : Value} (hc : jv_Cx E own cc nL d) (hd : decode cc pc = .ok (.dup, 1)) (hp : pc + 1 = pc') (hv : v.category = 1) (k : jv_V E pc' L (v :: v :: st) σ) : jv_V E pc L (v :: st) σ := by
  subst hp
  obtain ⟨p, l, e, R, s, m, args, below, meth, c, cells, slots, Q, G⟩ := E
  obtain ⟨hx, hb, hml, hown, hts, hX, hZ, hD, hB, hR⟩ := hc
  subst hml
  intro H locs ls hP hS hl
  exact lv_dup hx hb hd (by rw [jv_cv_cat]; exact hv) (k H locs ls hP hS hl)
theorem jv_pop {v : Value} (hc : jv_Cx E own cc nL d) (hd : decode cc pc = .ok (.pop, 1)) (hp : pc + 1 = pc') (hv : v.category = 1) (k : jv_V E pc' L (st) σ) : jv_V E pc L (v :: st) σ := by
  subst hp
  obtain ⟨p, l, e, R, s, m, args, below, meth, c, cells, slots, Q, G⟩ := E
  obtain ⟨hx, hb, hml, hown, hts, hX, hZ, hD, hB, hR⟩ := hc
  subst hml
  intro H locs ls hP hS hl
  exact lv_pop hx hb hd (by rw [jv_cv_cat]; exact hv) (k H locs ls hP hS hl)
theorem jv_dup2 {v w : Value} (hc : jv_Cx E own cc nL d) (hd : decode cc pc = .ok (.dup2, 1)) (hp : pc + 1 = pc') (hv : v.category = 1) (hw : w.category = 1) (k : jv_V E pc' L (v :: w :: v :: w :: st) σ) : jv_V E pc L (v :: w :: st) σ := by
  subst hp
  obtain ⟨p, l, e, R, s, m, args, below, meth, c, cells, slots, Q, G⟩ := E
  obtain ⟨hx, hb, hml, hown, hts, hX, hZ, hD, hB, hR⟩ := hc
  subst hml
  intro H locs ls hP hS hl
  exact lv_dup2_11 hx hb hd (by rw [jv_cv_cat]; exact hv) (by rw [jv_cv_cat]; exact hw) (k H locs ls hP hS hl)
theorem jv_iconst {n : Int} {v : Int32} (hc : jv_Cx E own cc nL d) (hd : decode cc pc = .ok (.iconst n, 1)) (hp : pc + 1 = pc') (hv : Int32.ofInt n = v) (k : jv_V E pc' L (.int v :: st) σ) : jv_V E pc L (st) σ := by
  subst hp
  obtain ⟨p, l, e, R, s, m, args, below, meth, c, cells, slots, Q, G⟩ := E
  obtain ⟨hx, hb, hml, hown, hts, hX, hZ, hD, hB, hR⟩ := hc
  subst hml
  intro H locs ls hP hS hl
  exact lv_iconst hx hb hd hv (k H locs ls hP hS hl)
theorem jv_bipush {n : Int} {v : Int32} (hc : jv_Cx E own cc nL d) (hd : decode cc pc = .ok (.bipush n, 2)) (hp : pc + 2 = pc') (hv : (Int8.ofInt n).toInt32 = v) (k : jv_V E pc' L (.int v :: st) σ) : jv_V E pc L (st) σ := by
  subst hp
  obtain ⟨p, l, e, R, s, m, args, below, meth, c, cells, slots, Q, G⟩ := E
  obtain ⟨hx, hb, hml, hown, hts, hX, hZ, hD, hB, hR⟩ := hc
  subst hml
  intro H locs ls hP hS hl
  exact lv_bipush hx hb hd hv (k H locs ls hP hS hl)
theorem jv_sipush {n : Int} {v : Int32} (hc : jv_Cx E own cc nL d) (hd : decode cc pc = .ok (.sipush n, 3)) (hp : pc + 3 = pc') (hv : (Int16.ofInt n).toInt32 = v) (k : jv_V E pc' L (.int v :: st) σ) : jv_V E pc L (st) σ := by
  subst hp
  obtain ⟨p, l, e, R, s, m, args, below, meth, c, cells, slots, Q, G⟩ := E
  obtain ⟨hx, hb, hml, hown, hts, hX, hZ, hD, hB, hR⟩ := hc
  subst hml
  intro H locs ls hP hS hl
  exact lv_sipush hx hb hd hv (k H locs ls hP hS hl)
theorem jv_lconst {n : Fin 2} {v : Int64} (hc : jv_Cx E own cc nL d) (hd : decode cc pc = .ok (.lconst n, 1)) (hp : pc + 1 = pc') (hv : Int64.ofNat (n : Nat) = v) (k : jv_V E pc' L (.long v :: st) σ) : jv_V E pc L (st) σ := by
  subst hp
  obtain ⟨p, l, e, R, s, m, args, below, meth, c, cells, slots, Q, G⟩ := E
  obtain ⟨hx, hb, hml, hown, hts, hX, hZ, hD, hB, hR⟩ := hc
  subst hml
  intro H locs ls hP hS hl
  exact lv_lconst hx hb hd hv (k H locs ls hP hS hl)
theorem jv_ldc {index : Nat} {v : Int32} (hc : jv_Cx E own cc nL d) (hd : decode cc pc = .ok (.ldc index, 2)) (hp : pc + 2 = pc') (hw : Cond.constant own index v ∈ jv_WS) (k : jv_V E pc' L (.int v :: st) σ) : jv_V E pc L (st) σ := by
  subst hp
  obtain ⟨p, l, e, R, s, m, args, below, meth, c, cells, slots, Q, G⟩ := E
  obtain ⟨hx, hb, hml, hown, hts, hX, hZ, hD, hB, hR⟩ := hc
  subst hml
  intro H locs ls hP hS hl
  exact lv_ldc hx hb hown (hts _ hw) hd (k H locs ls hP hS hl)
theorem jv_ldc2 {index : Nat} {v : Int64} (hc : jv_Cx E own cc nL d) (hd : decode cc pc = .ok (.ldc2_w index, 3)) (hp : pc + 3 = pc') (hw : Cond.constantLong own index v ∈ jv_WS) (k : jv_V E pc' L (.long v :: st) σ) : jv_V E pc L (st) σ := by
  subst hp
  obtain ⟨p, l, e, R, s, m, args, below, meth, c, cells, slots, Q, G⟩ := E
  obtain ⟨hx, hb, hml, hown, hts, hX, hZ, hD, hB, hR⟩ := hc
  subst hml
  intro H locs ls hP hS hl
  exact lv_ldc2 hx hb hown (hts _ hw) hd (k H locs ls hP hS hl)
theorem jv_iload_n {k4 : Fin 4} {x : Int32} (hc : jv_Cx E own cc nL d) (hd : decode cc pc = .ok (.iload_n k4, 1)) (hp : pc + 1 = pc') (i : Nat) (hi : (k4 : Nat) = i) (hL : L[i]? = some (some (.int x))) (k : jv_V E pc' L (.int x :: st) σ) : jv_V E pc L (st) σ := by
  subst hp
  obtain ⟨p, l, e, R, s, m, args, below, meth, c, cells, slots, Q, G⟩ := E
  obtain ⟨hx, hb, hml, hown, hts, hX, hZ, hD, hB, hR⟩ := hc
  subst hml
  intro H locs ls hP hS hl
  exact lv_iload_n hx hb hd hi (jv_at hl hL) (k H locs ls hP hS hl)
theorem jv_iload {i : Nat} {x : Int32} (hc : jv_Cx E own cc nL d) (hd : decode cc pc = .ok (.iload i, 2)) (hp : pc + 2 = pc') (hL : L[i]? = some (some (.int x))) (k : jv_V E pc' L (.int x :: st) σ) : jv_V E pc L (st) σ := by
  subst hp
  obtain ⟨p, l, e, R, s, m, args, below, meth, c, cells, slots, Q, G⟩ := E
  obtain ⟨hx, hb, hml, hown, hts, hX, hZ, hD, hB, hR⟩ := hc
  subst hml
  intro H locs ls hP hS hl
  exact lv_iload hx hb hd (jv_at hl hL) (k H locs ls hP hS hl)
theorem jv_lload_n {k4 : Fin 4} {x : Int64} (hc : jv_Cx E own cc nL d) (hd : decode cc pc = .ok (.lload_n k4, 1)) (hp : pc + 1 = pc') (i : Nat) (hi : (k4 : Nat) = i) (hL : L[i]? = some (some (.long x))) (k : jv_V E pc' L (.long x :: st) σ) : jv_V E pc L (st) σ := by
  subst hp
  obtain ⟨p, l, e, R, s, m, args, below, meth, c, cells, slots, Q, G⟩ := E
  obtain ⟨hx, hb, hml, hown, hts, hX, hZ, hD, hB, hR⟩ := hc
  subst hml
  intro H locs ls hP hS hl
  exact lv_lload_n hx hb hd hi (jv_at hl hL) (k H locs ls hP hS hl)
theorem jv_lload {i : Nat} {x : Int64} (hc : jv_Cx E own cc nL d) (hd : decode cc pc = .ok (.lload i, 2)) (hp : pc + 2 = pc') (hL : L[i]? = some (some (.long x))) (k : jv_V E pc' L (.long x :: st) σ) : jv_V E pc L (st) σ := by
  subst hp
  obtain ⟨p, l, e, R, s, m, args, below, meth, c, cells, slots, Q, G⟩ := E
  obtain ⟨hx, hb, hml, hown, hts, hX, hZ, hD, hB, hR⟩ := hc
  subst hml
  intro H locs ls hP hS hl
  exact lv_lload hx hb hd (jv_at hl hL) (k H locs ls hP hS hl)
theorem jv_aload_n {k4 : Fin 4} {x : Nat} (hc : jv_Cx E own cc nL d) (hd : decode cc pc = .ok (.aload_n k4, 1)) (hp : pc + 1 = pc') (i : Nat) (hi : (k4 : Nat) = i) (hL : L[i]? = some (some (.ref x))) (k : jv_V E pc' L (.ref x :: st) σ) : jv_V E pc L (st) σ := by
  subst hp
  obtain ⟨p, l, e, R, s, m, args, below, meth, c, cells, slots, Q, G⟩ := E
  obtain ⟨hx, hb, hml, hown, hts, hX, hZ, hD, hB, hR⟩ := hc
  subst hml
  intro H locs ls hP hS hl
  exact lv_aload_n hx hb hd hi (jv_at hl hL) (k H locs ls hP hS hl)
theorem jv_aload {i : Nat} {x : Nat} (hc : jv_Cx E own cc nL d) (hd : decode cc pc = .ok (.aload i, 2)) (hp : pc + 2 = pc') (hL : L[i]? = some (some (.ref x))) (k : jv_V E pc' L (.ref x :: st) σ) : jv_V E pc L (st) σ := by
  subst hp
  obtain ⟨p, l, e, R, s, m, args, below, meth, c, cells, slots, Q, G⟩ := E
  obtain ⟨hx, hb, hml, hown, hts, hX, hZ, hD, hB, hR⟩ := hc
  subst hml
  intro H locs ls hP hS hl
  exact lv_aload hx hb hd (jv_at hl hL) (k H locs ls hP hS hl)
theorem jv_istore_n {k4 : Fin 4} {x : Int32} (hc : jv_Cx E own cc nL d) (hd : decode cc pc = .ok (.istore_n k4, 1)) (hp : pc + 1 = pc') (i : Nat) (hi : (k4 : Nat) = i) (hn : i < nL) (hk : jv_nl L i = true) (hL : L.set i (some (.int x)) = L') (k : jv_V E pc' L' (st) σ) : jv_V E pc L (.int x :: st) σ := by
  subst hp
  obtain ⟨p, l, e, R, s, m, args, below, meth, c, cells, slots, Q, G⟩ := E
  obtain ⟨hx, hb, hml, hown, hts, hX, hZ, hD, hB, hR⟩ := hc
  subst hml
  intro H locs ls hP hS hl
  subst hL; exact lv_istore_n hx hb hd hi hl hn rfl (fun ls h => k H locs ls hP hS (jv_set1 (v := .int x) rfl hk h))
theorem jv_istore {i : Nat} {x : Int32} (hc : jv_Cx E own cc nL d) (hd : decode cc pc = .ok (.istore i, 2)) (hp : pc + 2 = pc') (hn : i < nL) (hk : jv_nl L i = true) (hL : L.set i (some (.int x)) = L') (k : jv_V E pc' L' (st) σ) : jv_V E pc L (.int x :: st) σ := by
  subst hp
  obtain ⟨p, l, e, R, s, m, args, below, meth, c, cells, slots, Q, G⟩ := E
  obtain ⟨hx, hb, hml, hown, hts, hX, hZ, hD, hB, hR⟩ := hc
  subst hml
  intro H locs ls hP hS hl
  subst hL; exact lv_istore hx hb hd hl hn rfl (fun ls h => k H locs ls hP hS (jv_set1 (v := .int x) rfl hk h))
theorem jv_astore_n {k4 : Fin 4} {x : Nat} (hc : jv_Cx E own cc nL d) (hd : decode cc pc = .ok (.astore_n k4, 1)) (hp : pc + 1 = pc') (i : Nat) (hi : (k4 : Nat) = i) (hn : i < nL) (hk : jv_nl L i = true) (hL : L.set i (some (.ref x)) = L') (k : jv_V E pc' L' (st) σ) : jv_V E pc L (.ref x :: st) σ := by
  subst hp
  obtain ⟨p, l, e, R, s, m, args, below, meth, c, cells, slots, Q, G⟩ := E
  obtain ⟨hx, hb, hml, hown, hts, hX, hZ, hD, hB, hR⟩ := hc
  subst hml
  intro H locs ls hP hS hl
  subst hL; exact lv_astore_n hx hb hd hi hl hn rfl (fun ls h => k H locs ls hP hS (jv_set1 (v := .ref x) rfl hk h))
theorem jv_astore {i : Nat} {x : Nat} (hc : jv_Cx E own cc nL d) (hd : decode cc pc = .ok (.astore i, 2)) (hp : pc + 2 = pc') (hn : i < nL) (hk : jv_nl L i = true) (hL : L.set i (some (.ref x)) = L') (k : jv_V E pc' L' (st) σ) : jv_V E pc L (.ref x :: st) σ := by
  subst hp
  obtain ⟨p, l, e, R, s, m, args, below, meth, c, cells, slots, Q, G⟩ := E
  obtain ⟨hx, hb, hml, hown, hts, hX, hZ, hD, hB, hR⟩ := hc
  subst hml
  intro H locs ls hP hS hl
  subst hL; exact lv_astore hx hb hd hl hn rfl (fun ls h => k H locs ls hP hS (jv_set1 (v := .ref x) rfl hk h))
theorem jv_lstore {i : Nat} {x : Int64} (hc : jv_Cx E own cc nL d) (hd : decode cc pc = .ok (.lstore i, 2)) (hp : pc + 2 = pc') (hn : i + 1 < nL) (hk : jv_nl L i = true) (hL : (L.set i (some (.long x))).set (i + 1) none = L') (k : jv_V E pc' L' (st) σ) : jv_V E pc L (.long x :: st) σ := by
  subst hp
  obtain ⟨p, l, e, R, s, m, args, below, meth, c, cells, slots, Q, G⟩ := E
  obtain ⟨hx, hb, hml, hown, hts, hX, hZ, hD, hB, hR⟩ := hc
  subst hml
  intro H locs ls hP hS hl
  subst hL; exact lv_lstore hx hb hd hl hn rfl (fun ls h => k H locs ls hP hS (jv_set2 hk h))
theorem jv_iinc {i : Nat} {n : Int} {x v : Int32} (hc : jv_Cx E own cc nL d) (hd : decode cc pc = .ok (.iinc i n, 3)) (hp : pc + 3 = pc') (hi : L[i]? = some (some (.int x))) (hv : x + Int32.ofInt n = v) (hn : i < nL) (hk : jv_nl L i = true) (hL : L.set i (some (.int v)) = L') (k : jv_V E pc' L' (st) σ) : jv_V E pc L (st) σ := by
  subst hp
  obtain ⟨p, l, e, R, s, m, args, below, meth, c, cells, slots, Q, G⟩ := E
  obtain ⟨hx, hb, hml, hown, hts, hX, hZ, hD, hB, hR⟩ := hc
  subst hml
  intro H locs ls hP hS hl
  subst hL
  obtain ⟨q, hq⟩ := List.getElem?_of_mem ((jv_lst_mem (G := G) L 0 (i, .int x)).mpr ⟨i, .int x, by rw [Nat.zero_add]; rfl, hi⟩)
  exact lv_iinc hx hb hd hl hq hv hn rfl (fun ls h => k H locs ls hP hS (jv_set1 (v := .int v) rfl hk h))
theorem jv_icmp_eq {x y : Int32} {off : Int} {tgt : Nat} (hc : jv_Cx E own cc nL d) (hd : decode cc pc = .ok (.if_icmp .eq off, 3)) (ht : (pc : Int) + off = (tgt : Int)) (hp : pc + 3 = pc') (kt : x = y → jv_V E tgt L st σ) (kf : ¬ x = y → jv_V E pc' L st σ) : jv_V E pc L (.int y :: .int x :: st) σ := by
  subst hp
  obtain ⟨p, l, e, R, s, m, args, below, meth, c, cells, slots, Q, G⟩ := E
  obtain ⟨hx, hb, hml, hown, hts, hX, hZ, hD, hB, hR⟩ := hc
  subst hml
  intro H locs ls hP hS hl
  exact lv_icmp_eq hx hb hd ht (fun h => kt h H locs ls hP hS hl) (fun h => kf h H locs ls hP hS hl)
theorem jv_if_eq {x : Int32} {off : Int} {tgt : Nat} (hc : jv_Cx E own cc nL d) (hd : decode cc pc = .ok (.ifCond .eq off, 3)) (ht : (pc : Int) + off = (tgt : Int)) (hp : pc + 3 = pc') (kt : x = 0 → jv_V E tgt L st σ) (kf : ¬ x = 0 → jv_V E pc' L st σ) : jv_V E pc L (.int x :: st) σ := by
  subst hp
  obtain ⟨p, l, e, R, s, m, args, below, meth, c, cells, slots, Q, G⟩ := E
  obtain ⟨hx, hb, hml, hown, hts, hX, hZ, hD, hB, hR⟩ := hc
  subst hml
  intro H locs ls hP hS hl
  exact lv_if_eq hx hb hd ht (fun h => kt h H locs ls hP hS hl) (fun h => kf h H locs ls hP hS hl)
theorem jv_icmp_ne {x y : Int32} {off : Int} {tgt : Nat} (hc : jv_Cx E own cc nL d) (hd : decode cc pc = .ok (.if_icmp .ne off, 3)) (ht : (pc : Int) + off = (tgt : Int)) (hp : pc + 3 = pc') (kt : ¬ x = y → jv_V E tgt L st σ) (kf : x = y → jv_V E pc' L st σ) : jv_V E pc L (.int y :: .int x :: st) σ := by
  subst hp
  obtain ⟨p, l, e, R, s, m, args, below, meth, c, cells, slots, Q, G⟩ := E
  obtain ⟨hx, hb, hml, hown, hts, hX, hZ, hD, hB, hR⟩ := hc
  subst hml
  intro H locs ls hP hS hl
  exact lv_icmp_ne hx hb hd ht (fun h => kt h H locs ls hP hS hl) (fun h => kf h H locs ls hP hS hl)
theorem jv_if_ne {x : Int32} {off : Int} {tgt : Nat} (hc : jv_Cx E own cc nL d) (hd : decode cc pc = .ok (.ifCond .ne off, 3)) (ht : (pc : Int) + off = (tgt : Int)) (hp : pc + 3 = pc') (kt : ¬ x = 0 → jv_V E tgt L st σ) (kf : x = 0 → jv_V E pc' L st σ) : jv_V E pc L (.int x :: st) σ := by
  subst hp
  obtain ⟨p, l, e, R, s, m, args, below, meth, c, cells, slots, Q, G⟩ := E
  obtain ⟨hx, hb, hml, hown, hts, hX, hZ, hD, hB, hR⟩ := hc
  subst hml
  intro H locs ls hP hS hl
  exact lv_if_ne hx hb hd ht (fun h => kt h H locs ls hP hS hl) (fun h => kf h H locs ls hP hS hl)
theorem jv_icmp_lt {x y : Int32} {off : Int} {tgt : Nat} (hc : jv_Cx E own cc nL d) (hd : decode cc pc = .ok (.if_icmp .lt off, 3)) (ht : (pc : Int) + off = (tgt : Int)) (hp : pc + 3 = pc') (kt : x < y → jv_V E tgt L st σ) (kf : ¬ x < y → jv_V E pc' L st σ) : jv_V E pc L (.int y :: .int x :: st) σ := by
  subst hp
  obtain ⟨p, l, e, R, s, m, args, below, meth, c, cells, slots, Q, G⟩ := E
  obtain ⟨hx, hb, hml, hown, hts, hX, hZ, hD, hB, hR⟩ := hc
  subst hml
  intro H locs ls hP hS hl
  exact lv_icmp_lt hx hb hd ht (fun h => kt h H locs ls hP hS hl) (fun h => kf h H locs ls hP hS hl)
theorem jv_if_lt {x : Int32} {off : Int} {tgt : Nat} (hc : jv_Cx E own cc nL d) (hd : decode cc pc = .ok (.ifCond .lt off, 3)) (ht : (pc : Int) + off = (tgt : Int)) (hp : pc + 3 = pc') (kt : x < 0 → jv_V E tgt L st σ) (kf : ¬ x < 0 → jv_V E pc' L st σ) : jv_V E pc L (.int x :: st) σ := by
  subst hp
  obtain ⟨p, l, e, R, s, m, args, below, meth, c, cells, slots, Q, G⟩ := E
  obtain ⟨hx, hb, hml, hown, hts, hX, hZ, hD, hB, hR⟩ := hc
  subst hml
  intro H locs ls hP hS hl
  exact lv_if_lt hx hb hd ht (fun h => kt h H locs ls hP hS hl) (fun h => kf h H locs ls hP hS hl)
theorem jv_icmp_ge {x y : Int32} {off : Int} {tgt : Nat} (hc : jv_Cx E own cc nL d) (hd : decode cc pc = .ok (.if_icmp .ge off, 3)) (ht : (pc : Int) + off = (tgt : Int)) (hp : pc + 3 = pc') (kt : y ≤ x → jv_V E tgt L st σ) (kf : ¬ y ≤ x → jv_V E pc' L st σ) : jv_V E pc L (.int y :: .int x :: st) σ := by
  subst hp
  obtain ⟨p, l, e, R, s, m, args, below, meth, c, cells, slots, Q, G⟩ := E
  obtain ⟨hx, hb, hml, hown, hts, hX, hZ, hD, hB, hR⟩ := hc
  subst hml
  intro H locs ls hP hS hl
  exact lv_icmp_ge hx hb hd ht (fun h => kt h H locs ls hP hS hl) (fun h => kf h H locs ls hP hS hl)
theorem jv_if_ge {x : Int32} {off : Int} {tgt : Nat} (hc : jv_Cx E own cc nL d) (hd : decode cc pc = .ok (.ifCond .ge off, 3)) (ht : (pc : Int) + off = (tgt : Int)) (hp : pc + 3 = pc') (kt : 0 ≤ x → jv_V E tgt L st σ) (kf : ¬ 0 ≤ x → jv_V E pc' L st σ) : jv_V E pc L (.int x :: st) σ := by
  subst hp
  obtain ⟨p, l, e, R, s, m, args, below, meth, c, cells, slots, Q, G⟩ := E
  obtain ⟨hx, hb, hml, hown, hts, hX, hZ, hD, hB, hR⟩ := hc
  subst hml
  intro H locs ls hP hS hl
  exact lv_if_ge hx hb hd ht (fun h => kt h H locs ls hP hS hl) (fun h => kf h H locs ls hP hS hl)
theorem jv_icmp_gt {x y : Int32} {off : Int} {tgt : Nat} (hc : jv_Cx E own cc nL d) (hd : decode cc pc = .ok (.if_icmp .gt off, 3)) (ht : (pc : Int) + off = (tgt : Int)) (hp : pc + 3 = pc') (kt : y < x → jv_V E tgt L st σ) (kf : ¬ y < x → jv_V E pc' L st σ) : jv_V E pc L (.int y :: .int x :: st) σ := by
  subst hp
  obtain ⟨p, l, e, R, s, m, args, below, meth, c, cells, slots, Q, G⟩ := E
  obtain ⟨hx, hb, hml, hown, hts, hX, hZ, hD, hB, hR⟩ := hc
  subst hml
  intro H locs ls hP hS hl
  exact lv_icmp_gt hx hb hd ht (fun h => kt h H locs ls hP hS hl) (fun h => kf h H locs ls hP hS hl)
theorem jv_if_gt {x : Int32} {off : Int} {tgt : Nat} (hc : jv_Cx E own cc nL d) (hd : decode cc pc = .ok (.ifCond .gt off, 3)) (ht : (pc : Int) + off = (tgt : Int)) (hp : pc + 3 = pc') (kt : 0 < x → jv_V E tgt L st σ) (kf : ¬ 0 < x → jv_V E pc' L st σ) : jv_V E pc L (.int x :: st) σ := by
  subst hp
  obtain ⟨p, l, e, R, s, m, args, below, meth, c, cells, slots, Q, G⟩ := E
  obtain ⟨hx, hb, hml, hown, hts, hX, hZ, hD, hB, hR⟩ := hc
  subst hml
  intro H locs ls hP hS hl
  exact lv_if_gt hx hb hd ht (fun h => kt h H locs ls hP hS hl) (fun h => kf h H locs ls hP hS hl)
theorem jv_icmp_le {x y : Int32} {off : Int} {tgt : Nat} (hc : jv_Cx E own cc nL d) (hd : decode cc pc = .ok (.if_icmp .le off, 3)) (ht : (pc : Int) + off = (tgt : Int)) (hp : pc + 3 = pc') (kt : x ≤ y → jv_V E tgt L st σ) (kf : ¬ x ≤ y → jv_V E pc' L st σ) : jv_V E pc L (.int y :: .int x :: st) σ := by
  subst hp
  obtain ⟨p, l, e, R, s, m, args, below, meth, c, cells, slots, Q, G⟩ := E
  obtain ⟨hx, hb, hml, hown, hts, hX, hZ, hD, hB, hR⟩ := hc
  subst hml
  intro H locs ls hP hS hl
  exact lv_icmp_le hx hb hd ht (fun h => kt h H locs ls hP hS hl) (fun h => kf h H locs ls hP hS hl)
theorem jv_if_le {x : Int32} {off : Int} {tgt : Nat} (hc : jv_Cx E own cc nL d) (hd : decode cc pc = .ok (.ifCond .le off, 3)) (ht : (pc : Int) + off = (tgt : Int)) (hp : pc + 3 = pc') (kt : x ≤ 0 → jv_V E tgt L st σ) (kf : ¬ x ≤ 0 → jv_V E pc' L st σ) : jv_V E pc L (.int x :: st) σ := by
  subst hp
  obtain ⟨p, l, e, R, s, m, args, below, meth, c, cells, slots, Q, G⟩ := E
  obtain ⟨hx, hb, hml, hown, hts, hX, hZ, hD, hB, hR⟩ := hc
  subst hml
  intro H locs ls hP hS hl
  exact lv_if_le hx hb hd ht (fun h => kt h H locs ls hP hS hl) (fun h => kf h H locs ls hP hS hl)
theorem jv_goto {off : Int} {tgt : Nat} (hc : jv_Cx E own cc nL d) (hd : decode cc pc = .ok (.goto off, 3)) (ht : (pc : Int) + off = (tgt : Int)) (k : jv_V E tgt L st σ) : jv_V E pc L st σ := by
  obtain ⟨p, l, e, R, s, m, args, below, meth, c, cells, slots, Q, G⟩ := E
  obtain ⟨hx, hb, hml, hown, hts, hX, hZ, hD, hB, hR⟩ := hc
  subst hml
  intro H locs ls hP hS hl
  exact lv_goto hx hb hd ht (k H locs ls hP hS hl)
/-- a field that the code at own may read by its entry: class ci, slot j -/
def jv_F (own : String) (index ci j : Nat) : Prop := ∃ (C : String) (T : u_T) (N : Nat), vwCl[ci]? = some (C, T, N) ∧ j < N ∧ (∀ w ∈ u_ws C T N, w ∈ jv_WS) ∧ Cond.fieldLink own index (T j).1 (T j).2.1 (T j).2.2.1 ∈ jv_WS
/-- .. and write -/
def jv_Fp (own : String) (index ci j : Nat) (ty : FieldType) : Prop := ∃ (C : String) (T : u_T) (N : Nat) (ty0 : Nat → FieldType), vwCl[ci]? = some (C, T, N) ∧ j < N ∧ (∀ w ∈ u_ws C T N, w ∈ jv_WS) ∧ Cond.fieldLink own index (T j).1 (T j).2.1 (T j).2.2.1 ∈ jv_WS ∧
  (∀ k, k < N → parseFieldDescriptor (T k).2.2.1 = some (ty0 k)) ∧ (∀ a, a < N → ∀ b, b < N → a ≠ b → (T a).2.1 ≠ (T b).2.1) ∧ (T j).2.2.2 = false ∧ parseFieldDescriptor (T j).2.2.1 = some ty
theorem jv_mapIdx {G : jv_G} {σ : jv_S} {k j c : Nat} {fc : List Nat} (h : fc[j]? = some c) : (fc.mapIdx (fun j c => jv_cv G (jv_fa σ k j c)))[j]? = some (jv_cv G (jv_fa σ k j c)) := by
  simp [List.getElem?_mapIdx, h]

theorem jv_get {index ci j k0 c : Nat} {fc : List Nat} {v : Value} (hc : jv_Cx E own cc nL d) (hd : decode cc pc = .ok (.getfield index, 3)) (hp : pc + 3 = pc') (hf : jv_F own index ci j) (ho : jv_os[k0]? = some (.inl (ci, fc))) (hj : fc[j]? = some c) (hv : jv_fa σ k0 j c = v) (k : jv_V E pc' L (v :: st) σ) : jv_V E pc L (.ref k0 :: st) σ := by
  subst hp
  obtain ⟨p, l, e, R, s, m, args, below, meth, c, cells, slots, Q, G⟩ := E
  obtain ⟨hx, hb, hml, hown, hts, hX, hZ, hD, hB, hR⟩ := hc
  subst hml
  intro H locs ls hP hS hl
  obtain ⟨C, T, N, h1, h2, h3, h4⟩ := hf
  subst hv
  exact va_get (D := G.1) (cl := vwCl) (tys := jv_tys G) (ci := ci) (C := C) (T := T) (N := N) hx hb hts h3 hown hX.1 hP k0 (jv_ws_at ho) h1 j h2 (hts _ h4) (fun _ h9 => h9) (jv_mapIdx hj) hd (k H locs ls hP hS hl)
theorem jv_fs_set {G : jv_G} {σ τ : jv_S} {k j : Nat} {fc : List Nat} {c : Nat} (hj : fc[j]? = some c) (h : ∀ j' c', j' ≠ j → jv_fa τ k j' c' = jv_fa σ k j' c') {v : Value} (hv : jv_cv G (jv_fa τ k j c) = v) :
    fc.mapIdx (fun j c => jv_cv G (jv_fa τ k j c)) = (fc.mapIdx (fun j c => jv_cv G (jv_fa σ k j c))).set j v := by
  apply List.ext_getElem?
  intro i
  rw [List.getElem?_set, List.getElem?_mapIdx, List.getElem?_mapIdx]
  by_cases e : j = i
  · subst e
    have hl : j < fc.length := (List.getElem?_eq_some_iff.mp hj).1
    rw [if_pos rfl, if_pos (by simpa using hl), hj]
    simp [hv]
  · rw [if_neg e]
    cases hq : fc[i]? with
    | none => rfl
    | some c' => simp [h i c' (Ne.symm e)]
theorem jv_u_same {α : Type} {f : Nat → α} {k : Nat} {r : α} : jv_u f k r k = r := if_pos rfl
theorem jv_u_ne {α : Type} {f : Nat → α} {k k' : Nat} {r : α} (h : k' ≠ k) : jv_u f k r k' = f k' := if_neg h
theorem jv_set_fi {G : jv_G} {σ : jv_S} {k ci j : Nat} {fc : List Nat} {x : Int32} (ho : jv_os[k]? = some (.inl (ci, fc))) (hj : fc[j]? = some 0) :
    (jv_ws G jv_os σ).set k (G.2.1 k, .inr (ci, (fc.mapIdx (fun j c => jv_cv G (jv_fa σ k j c))).set j (.int x))) = jv_ws G jv_os (jv_si σ k j x) := by
  refine jv_ws_set ho ?_ (fun k' h => jv_u_ne h) (fun k' h => rfl)
  have e := jv_fs_set (G := G) (σ := σ) (τ := jv_si σ k j x) (k := k) hj (fun j2 c2 h => by
    match c2 with
    | 0 => simp [jv_fa, jv_si, jv_u, upd, h]
    | 1 => rfl
    | r + 2 => rfl) (v := .int x) (by simp [jv_fa, jv_si, jv_u, upd, jv_cv])
  simp only [jv_en, e]
theorem jv_set_fl {G : jv_G} {σ : jv_S} {k ci j : Nat} {fc : List Nat} {x : Int64} (ho : jv_os[k]? = some (.inl (ci, fc))) (hj : fc[j]? = some 1) :
    (jv_ws G jv_os σ).set k (G.2.1 k, .inr (ci, (fc.mapIdx (fun j c => jv_cv G (jv_fa σ k j c))).set j (.long x))) = jv_ws G jv_os (jv_sl σ k j x) := by
  refine jv_ws_set ho ?_ (fun k' h => rfl) (fun k' h => jv_u_ne h)
  have e := jv_fs_set (G := G) (σ := σ) (τ := jv_sl σ k j x) (k := k) hj (fun j2 c2 h => by
    match c2 with
    | 0 => rfl
    | 1 => simp [jv_fa, jv_sl, jv_u, vp_updL, h]
    | r + 2 => rfl) (v := .long x) (by simp [jv_fa, jv_sl, jv_u, vp_updL, jv_cv])
  simp only [jv_en, e]

theorem jv_puti {index ci j k0 : Nat} {fc : List Nat} {ty : FieldType} {x : Int32} (hc : jv_Cx E own cc nL d) (hd : decode cc pc = .ok (.putfield index, 3)) (hp : pc + 3 = pc') (hf : jv_Fp own index ci j ty) (ho : jv_os[k0]? = some (.inl (ci, fc))) (hj : fc[j]? = some 0) (hn : narrow ty (.int x) = .int x) (hfit : fits ty (.int x) = true) (k : jv_V E pc' L (st) (jv_si σ k0 j x)) : jv_V E pc L (.int x :: .ref k0 :: st) σ := by
  subst hp
  obtain ⟨p, l, e, R, s, m, args, below, meth, c, cells, slots, Q, G⟩ := E
  obtain ⟨hx, hb, hml, hown, hts, hX, hZ, hD, hB, hR⟩ := hc
  subst hml
  intro H locs ls hP hS hl
  obtain ⟨C, T, N, ty0, h1, h2, h3, h4, h5, h6, h7, h8⟩ := hf
  refine va_put (D := G.1) (cl := vwCl) (tys := jv_tys G) (ci := ci) (v := .int x) (ty := ty) (C := C) (T := T) (N := N) hx hb hts h3 ty0 h5 h6 hown hX.1 hP (hD.va (σ := σ)) hS k0 (jv_ws_at ho) h1 j h2 (hts _ h4) (fun _ h9 => h9) h7 h8 hn hfit (by simpa using (List.getElem?_eq_some_iff.mp hj).1) hd (fun H1 locs1 hP1 _ hS1 => ?_)
  rw [jv_set_fi ho hj] at hP1
  exact k H1 locs1 ls hP1 hS1 hl
theorem jv_putl {index ci j k0 : Nat} {fc : List Nat} {ty : FieldType} {x : Int64} (hc : jv_Cx E own cc nL d) (hd : decode cc pc = .ok (.putfield index, 3)) (hp : pc + 3 = pc') (hf : jv_Fp own index ci j ty) (ho : jv_os[k0]? = some (.inl (ci, fc))) (hj : fc[j]? = some 1) (hn : narrow ty (.long x) = .long x) (hfit : fits ty (.long x) = true) (k : jv_V E pc' L (st) (jv_sl σ k0 j x)) : jv_V E pc L (.long x :: .ref k0 :: st) σ := by
  subst hp
  obtain ⟨p, l, e, R, s, m, args, below, meth, c, cells, slots, Q, G⟩ := E
  obtain ⟨hx, hb, hml, hown, hts, hX, hZ, hD, hB, hR⟩ := hc
  subst hml
  intro H locs ls hP hS hl
  obtain ⟨C, T, N, ty0, h1, h2, h3, h4, h5, h6, h7, h8⟩ := hf
  refine va_put (D := G.1) (cl := vwCl) (tys := jv_tys G) (ci := ci) (v := .long x) (ty := ty) (C := C) (T := T) (N := N) hx hb hts h3 ty0 h5 h6 hown hX.1 hP (hD.va (σ := σ)) hS k0 (jv_ws_at ho) h1 j h2 (hts _ h4) (fun _ h9 => h9) h7 h8 hn hfit (by simpa using (List.getElem?_eq_some_iff.mp hj).1) hd (fun H1 locs1 hP1 _ hS1 => ?_)
  rw [jv_set_fl ho hj] at hP1
  exact k H1 locs1 ls hP1 hS1 hl
theorem jv_iald {k0 n : Nat} {i : Int32} (hc : jv_Cx E own cc nL d) (hd : decode cc pc = .ok (.iaload, 1)) (hp : pc + 1 = pc') (ho : jv_os[k0]? = some (.inr (0, n))) (hin : vp_in i n) (k : jv_V E pc' L (.int (σ.1 k0 i.toNatClampNeg) :: st) σ) : jv_V E pc L (.int i :: .ref k0 :: st) σ := by
  subst hp
  obtain ⟨p, l, e, R, s, m, args, below, meth, c, cells, slots, Q, G⟩ := E
  obtain ⟨hx, hb, hml, hown, hts, hX, hZ, hD, hB, hR⟩ := hc
  subst hml
  intro H locs ls hP hS hl
  exact va_iald (D := G.1) (cl := vwCl) (tys := jv_tys G) hx hb hX.1 hP k0 0 (jv_ws_at ho) rfl hin hd (k H locs ls hP hS hl)
theorem jv_zald {k0 n : Nat} {i : Int32} (hc : jv_Cx E own cc nL d) (hd : decode cc pc = .ok (.baload, 1)) (hp : pc + 1 = pc') (ho : jv_os[k0]? = some (.inr (1, n))) (hin : vp_in i n) (k : jv_V E pc' L (.int (σ.1 k0 i.toNatClampNeg) :: st) σ) : jv_V E pc L (.int i :: .ref k0 :: st) σ := by
  subst hp
  obtain ⟨p, l, e, R, s, m, args, below, meth, c, cells, slots, Q, G⟩ := E
  obtain ⟨hx, hb, hml, hown, hts, hX, hZ, hD, hB, hR⟩ := hc
  subst hml
  intro H locs ls hP hS hl
  exact va_zald (D := G.1) (cl := vwCl) (tys := jv_tys G) hx hb hX.1 hP k0 1 (jv_ws_at ho) rfl hin hd (k H locs ls hP hS hl)
theorem jv_lald {k0 n : Nat} {i : Int32} (hc : jv_Cx E own cc nL d) (hd : decode cc pc = .ok (.laload, 1)) (hp : pc + 1 = pc') (ho : jv_os[k0]? = some (.inr (2, n))) (hin : vp_in i n) (k : jv_V E pc' L (.long (σ.2 k0 i.toNatClampNeg) :: st) σ) : jv_V E pc L (.int i :: .ref k0 :: st) σ := by
  subst hp
  obtain ⟨p, l, e, R, s, m, args, below, meth, c, cells, slots, Q, G⟩ := E
  obtain ⟨hx, hb, hml, hown, hts, hX, hZ, hD, hB, hR⟩ := hc
  subst hml
  intro H locs ls hP hS hl
  exact va_lald (D := G.1) (cl := vwCl) (tys := jv_tys G) hx hb hX.1 hP k0 2 (jv_ws_at ho) rfl hin hd (k H locs ls hP hS hl)
theorem jv_set_a0 {G : jv_G} {σ : jv_S} {k n : Nat} {j : Nat} {x : Int32} (ho : jv_os[k]? = some (.inr (0, n))) : (jv_ws G jv_os σ).set k (G.2.1 k, .inl (G.2.2.1.1, n, .inl (upd (σ.1 k) j x))) = jv_ws G jv_os (jv_si σ k j x) :=
  jv_ws_set ho (by simp [jv_en, jv_si, jv_u]) (fun k' h => jv_u_ne h) (fun k' h => rfl)
theorem jv_set_a1 {G : jv_G} {σ : jv_S} {k n : Nat} {j : Nat} {x : Int32} (ho : jv_os[k]? = some (.inr (1, n))) : (jv_ws G jv_os σ).set k (G.2.1 k, .inl (G.2.2.1.2.1, n, .inl (upd (σ.1 k) j x))) = jv_ws G jv_os (jv_si σ k j x) :=
  jv_ws_set ho (by simp [jv_en, jv_si, jv_u]) (fun k' h => jv_u_ne h) (fun k' h => rfl)
theorem jv_set_a2 {G : jv_G} {σ : jv_S} {k n : Nat} {j : Nat} {x : Int64} (ho : jv_os[k]? = some (.inr (2, n))) : (jv_ws G jv_os σ).set k (G.2.1 k, .inl (G.2.2.1.2.2, n, .inr (.inl (vp_updL (σ.2 k) j x)))) = jv_ws G jv_os (jv_sl σ k j x) :=
  jv_ws_set ho (by simp [jv_en, jv_sl, jv_u]) (fun k' h => rfl) (fun k' h => jv_u_ne h)

theorem jv_iast {k0 n : Nat} {i x : Int32} (hc : jv_Cx E own cc nL d) (hd : decode cc pc = .ok (.iastore, 1)) (hp : pc + 1 = pc') (ho : jv_os[k0]? = some (.inr (0, n))) (hin : vp_in i n) (k : jv_V E pc' L (st) (jv_si σ k0 i.toNatClampNeg x)) : jv_V E pc L (.int x :: .int i :: .ref k0 :: st) σ := by
  subst hp
  obtain ⟨p, l, e, R, s, m, args, below, meth, c, cells, slots, Q, G⟩ := E
  obtain ⟨hx, hb, hml, hown, hts, hX, hZ, hD, hB, hR⟩ := hc
  subst hml
  intro H locs ls hP hS hl
  refine va_iast (D := G.1) (cl := vwCl) (tys := jv_tys G) hx hb hX.1 hP (hD.va (σ := σ)) hS k0 0 (jv_ws_at ho) rfl hin hd (fun H1 locs1 hP1 _ hS1 => ?_)
  rw [jv_set_a0 ho] at hP1
  exact k H1 locs1 ls hP1 hS1 hl
theorem jv_zast {k0 n : Nat} {i x : Int32} (hc : jv_Cx E own cc nL d) (hd : decode cc pc = .ok (.bastore, 1)) (hp : pc + 1 = pc') (ho : jv_os[k0]? = some (.inr (1, n))) (hin : vp_in i n) (hx0 : vp_nar .boolean x = x) (k : jv_V E pc' L (st) (jv_si σ k0 i.toNatClampNeg x)) : jv_V E pc L (.int x :: .int i :: .ref k0 :: st) σ := by
  subst hp
  obtain ⟨p, l, e, R, s, m, args, below, meth, c, cells, slots, Q, G⟩ := E
  obtain ⟨hx, hb, hml, hown, hts, hX, hZ, hD, hB, hR⟩ := hc
  subst hml
  intro H locs ls hP hS hl
  refine va_zast (D := G.1) (cl := vwCl) (tys := jv_tys G) hx hb hX.1 hP (hD.va (σ := σ)) hS k0 1 (jv_ws_at ho) rfl hin hd (fun H1 locs1 hP1 _ hS1 => ?_)
  rw [hx0, jv_set_a1 ho] at hP1
  exact k H1 locs1 ls hP1 hS1 hl
theorem jv_last {k0 n : Nat} {i : Int32} {x : Int64} (hc : jv_Cx E own cc nL d) (hd : decode cc pc = .ok (.lastore, 1)) (hp : pc + 1 = pc') (ho : jv_os[k0]? = some (.inr (2, n))) (hin : vp_in i n) (k : jv_V E pc' L (st) (jv_sl σ k0 i.toNatClampNeg x)) : jv_V E pc L (.long x :: .int i :: .ref k0 :: st) σ := by
  subst hp
  obtain ⟨p, l, e, R, s, m, args, below, meth, c, cells, slots, Q, G⟩ := E
  obtain ⟨hx, hb, hml, hown, hts, hX, hZ, hD, hB, hR⟩ := hc
  subst hml
  intro H locs ls hP hS hl
  refine va_last (D := G.1) (cl := vwCl) (tys := jv_tys G) hx hb hX.1 hP (hD.va (σ := σ)) hS k0 2 (jv_ws_at ho) rfl hin hd (fun H1 locs1 hP1 _ hS1 => ?_)
  rw [jv_set_a2 ho] at hP1
  exact k H1 locs1 ls hP1 hS1 hl
theorem jv_alen {k0 n : Nat} {v : Int32} (hc : jv_Cx E own cc nL d) (hd : decode cc pc = .ok (.arraylength, 1)) (hp : pc + 1 = pc') (ho : jv_os[k0]? = some (.inr (0, n))) (hv : Int32.ofNat n = v) (k : jv_V E pc' L (.int v :: st) σ) : jv_V E pc L (.ref k0 :: st) σ := by
  subst hp
  obtain ⟨p, l, e, R, s, m, args, below, meth, c, cells, slots, Q, G⟩ := E
  obtain ⟨hx, hb, hml, hown, hts, hX, hZ, hD, hB, hR⟩ := hc
  subst hml
  intro H locs ls hP hS hl
  exact va_alen (D := G.1) (cl := vwCl) (tys := jv_tys G) hx hb hX.1 hP k0 0 (jv_ws_at ho) rfl hv hd (k H locs ls hP hS hl)
theorem jv_alenl {k0 n : Nat} {v : Int32} (hc : jv_Cx E own cc nL d) (hd : decode cc pc = .ok (.arraylength, 1)) (hp : pc + 1 = pc') (ho : jv_os[k0]? = some (.inr (2, n))) (hv : Int32.ofNat n = v) (k : jv_V E pc' L (.int v :: st) σ) : jv_V E pc L (.ref k0 :: st) σ := by
  subst hp
  obtain ⟨p, l, e, R, s, m, args, below, meth, c, cells, slots, Q, G⟩ := E
  obtain ⟨hx, hb, hml, hown, hts, hX, hZ, hD, hB, hR⟩ := hc
  subst hml
  intro H locs ls hP hS hl
  exact va_alen (D := G.1) (cl := vwCl) (tys := jv_tys G) hx hb hX.1 hP k0 2 (jv_ws_at ho) rfl hv hd (k H locs ls hP hS hl)
end JVROWS
end
section
/-! ===== contracts over the flat store, and calls ===== -/
/-- a method: its name, code, locals, what it answers -/
abbrev jv_M : Type := MethodName × ByteArray × Nat × Option FieldType
def jv_R (d k n : Nat) : Room := { frames := d + 12, cells := k, slots := n, locals := 64 * d + 250 }
def jv_Q (G : jv_G) (o : Option Value) (σ' : jv_S) : Array Value → State → Outcome → State → Prop := fun _ st oc t => oc = .returned (o.map (jv_cv G)) ∧ va_P G.1 vwCl (jv_ws G jv_os σ') t.heap ∧ va_F (jv_A G) st t
def jv_QF : Array Value → State → Outcome → State → Prop := fun _ _ _ _ => False
def jv_XC (G : jv_G) (E0 : String) (σ' : jv_S) : String → State → State → Prop := fun E1 st t => E1 = E0 ∧ va_P G.1 vwCl (jv_ws G jv_os σ') t.heap ∧ va_F (jv_A G) st t
/-- M, called with As over the store σ, answers o and leaves σ' -/
def jv_Cn (G : jv_G) (l : Launch) (d : Nat) (M : jv_M) (As : List Value) (σ : jv_S) (o : Option Value) (σ' : jv_S) : Prop :=
  Met l M.1 (.code M.1 M.2.1 M.2.2.1 M.2.2.2 :: jv_WS) (jv_R d 0 0) (va_Pc (As.map (jv_cv G)) (jv_I G jv_os jv_strs σ)) (jv_Q G o σ') 0 0 (jv_A G)
/-- .. or throws E0 and leaves σ' -/
def jv_Ct (G : jv_G) (l : Launch) (d : Nat) (M : jv_M) (As : List Value) (σ : jv_S) (E0 : String) (σ' : jv_S) : Prop :=
  vx_Met l M.1 (.code M.1 M.2.1 M.2.2.1 M.2.2.2 :: jv_WS) (jv_R d 1 6) (va_Pc (As.map (jv_cv G)) (jv_I G jv_os jv_strs σ)) jv_QF (jv_XC G E0 σ') 1 6 (jv_A G)
/-- what the tables say of a call: by name on an object of class C, static, static of a nest mate -/
def jv_MC (M : jv_M) (n : Nat) : Prop := Cond.code M.1 M.2.1 M.2.2.1 M.2.2.2 ∈ jv_WS ∧ Cond.initialized M.1.cls ∈ jv_WS ∧ (M.1.cls ≠ "java/lang/invoke/MethodHandle" ∧ M.1.cls ≠ "java/lang/invoke/VarHandle" ∧ (parseMethodDescriptor M.1.desc).map (fun d => d.parameters.length) = some n) ∧ M.2.2.1 ≤ 45
def jv_MV (own : String) (index : Nat) (M : jv_M) (n : Nat) : Prop := jv_MC M n ∧ Cond.methodLink own index M.1 ∈ jv_WS ∧ Cond.instanceMethod M.1 ∈ jv_WS ∧ Cond.selects M.1.cls M.1 M.1 ∈ jv_WS
def jv_MS (own : String) (index : Nat) (M : jv_M) (n : Nat) : Prop := jv_MC M n ∧ Cond.methodLink own index M.1 ∈ jv_WS ∧ Cond.static M.1 ∈ jv_WS
def jv_MN (own : String) (index : Nat) (host : String) (M : jv_M) (n : Nat) : Prop := jv_MC M n ∧ Cond.methodLinkNest own index M.1 host ∈ lw_tbl ∧ Cond.static M.1 ∈ jv_WS
theorem jv_good : ∀ w ∈ jv_WS, w ∈ jv_WS ∧ ((w.onTables && w.keeps) = true ∨ ∃ ty, w = .arrayClass ty) := fun _ h => ⟨h, jv_wg h⟩
theorem jv_goodc {w : Cond} (h : w ∈ jv_WS) : GoodIn jv_WS (w :: jv_WS) := fun z hz => (List.mem_cons.mp hz).elim (fun e => by rw [e]; exact jv_good _ h) (jv_good z)
set_option maxRecDepth 100000 in
theorem jv_loc {a d d' r : Nat} (h : a ≤ 45) (h2 : d' < d) (h3 : 64 * d + 250 ≤ r) : 8 + (a + 11) + (64 * d' + 250) ≤ r := by omega
section JVCALLS
variable {p : Program} {l : Launch} {e : Env} {R : Room} {s : State} {m : MethodId} {args : Array Value} {below : List Frame} {meth : Method} {c : Code} {H : Heap} {locs : List Loc} {cells slots : Nat} {Q : State → Prop}
variable {G : jv_G} {o : Option Value} {σ σ' : jv_S} {pc : Nat} {ls : Array Slot} {st0 rest : List Value} {a : Array Value}
theorem jv_go (hr : va_Run p l e R s m args below meth c H locs cells slots 0 0 (F0 m pc ls st0) rest (jv_Q G o σ' a) (jv_A G)) (hS : va_S (jv_A G) s.heap H locs)
    (kk : ∀ (H1 : Heap) (locs1 : List Loc), va_P G.1 vwCl (jv_ws G jv_os σ') H1 → va_S (jv_A G) s.heap H1 locs1 → W p l e R s m args below meth c H1 locs1 cells slots Q (F0 m (pc + 3) ls ((o.map (jv_cv G)).toList ++ rest))) : W p l e R s m args below meth c H locs cells slots Q (F0 m pc ls st0) := by
  intro T hT X
  obtain ⟨v, st₀, t, T', L, h0, X', hL, e1, e2, ⟨hv, hI, hz, hk⟩, st⟩ := hr T hT X
  cases hv
  rw [h0] at hz hk
  obtain ⟨t2, a1, b1⟩ := kk T'.heap (locs ++ L) (by rw [e1]; exact hI)
    ⟨Nat.le_trans hS.1 (by rw [e1]; exact hz), fun q h1 h2 => by rw [e1, hk q (Nat.lt_of_lt_of_le h1 hS.1) h2]; exact hS.2.1 q h1 h2, fun q hq => by
      rcases List.mem_append.mp hq with h | h
      · exact hS.2.2 q h
      · exact hL q h⟩ T' rfl X'
  exact ⟨t2, st t2 a1, b1⟩
theorem jv_goX {E0 : String} (hr : vx_Run p l e R s m args below meth c H locs cells slots 1 6 (F0 m pc ls st0) rest (jv_QF a) (jv_XC G E0 σ') (jv_A G)) (hS : va_S (jv_A G) s.heap H locs)
    (kk : ∀ (ce : Cell) (q : Addr) (H1 : Heap) (locs1 : List Loc), va_P G.1 vwCl (jv_ws G jv_os σ') H1 → va_S (jv_A G) s.heap H1 locs1 → H1[q]? = some ce → ce.vm = .none → s.vm.findClass E0 = some ce.cls → vx_W p l e R s m args below meth c H1 locs1 (cells + 1) (slots + 6) Q (F0 m pc ls rest) q) : W p l e R s m args below meth c H locs cells slots Q (F0 m pc ls st0) := by
  intro T hT X
  rcases hr T hT X with ⟨v, st₀, t, T', L, h0, X', hL, e1, e2, hF, st⟩ | ⟨q, st₀, t, T', L, E, ce, h0, X', hL, e1, e2, ⟨hE, hI, hz, hk⟩, hce, hcv, hcl, st⟩
  · exact hF.elim
  · subst hE
    rw [h0] at hz hk
    obtain ⟨t2, a1, b1⟩ := kk ce q T'.heap (locs ++ L) (by rw [e1]; exact hI)
      ⟨Nat.le_trans hS.1 (by rw [e1]; exact hz), fun q h1 h2 => by rw [e1, hk q (Nat.lt_of_lt_of_le h1 hS.1) h2]; exact hS.2.1 q h1 h2, fun q hq => by
        rcases List.mem_append.mp hq with h | h
        · exact hS.2.2 q h
        · exact hL q h⟩ (by rw [e1]; exact hce) hcv hcl T' rfl X'
    exact ⟨t2, st.trans a1, b1⟩
/-- the callee's start at a call -/
theorem jv_pre {As : List Value} (hX : jv_X G jv_strs s) (hZ : jv_Z G s s.heap) (hD : jv_D G jv_os) (hB : G.2.2.2 ≤ s.heap.size) (hP : va_P G.1 vwCl (jv_ws G jv_os σ) H) (hS : va_S (jv_A G) s.heap H locs) (U : State) (hU : U.heap = H) (hW : s.WarmedH U.vm) :
    va_Pc (As.map (jv_cv G)) (jv_I G jv_os jv_strs σ) (As.map (jv_cv G)).toArray U :=
  ⟨rfl, hX.warm hW, by rw [hU]; exact hZ.warm hW.alike hS, by rw [hU]; exact hP, hD, by rw [hU]; exact Nat.le_trans hB hS.1⟩
theorem jv_blind {As : List Value} : FrameBlind (va_Pc (As.map (jv_cv G)) (jv_I G jv_os jv_strs σ)) := fun _ _ _ _ h => ⟨h.1, h.2.blind⟩
theorem jv_sum {st : List Value} (h : (st.map fun v => v.category).sum ≤ 8) : ((st.map (jv_cv G)).map fun v => v.category).sum ≤ 8 := by
  rw [List.map_map, show (fun v => Value.category v) ∘ jv_cv G = fun v => v.category from funext jv_cv_cat]
  exact h
end JVCALLS
section JVCALLS2
variable {E : jv_E} {own : String} {cc : ByteArray} {nL d d' pc pc' : Nat} {L : List (Option Value)} {st st0 : List Value} {σ σ' : jv_S} {M : jv_M} {As : List Value} {o : Option Value} {index : Nat}
theorem jv_callV {k0 ci : Nat} {fc : List Nat} {n : Nat} {T : u_T} {N : Nat} (hc : jv_Cx E own cc nL d) (hd : decode cc pc = .ok (.invokevirtual index, 3)) (hp : pc + 3 = pc') (hm : jv_MV own index M n) (hM : jv_Cn (jv_g E) (jv_l E) d' M (.ref k0 :: As) σ o σ')
    (hn : As.length = n) (ho : jv_os[k0]? = some (.inl (ci, fc))) (hci : vwCl[ci]? = some (M.1.cls, T, N)) (hdd : d' < d) (hst : As.reverse ++ .ref k0 :: st = st0) (hroom : (st.map fun v => v.category).sum ≤ 8)
    (k : jv_V E pc' L (o.toList ++ st) σ') : jv_V E pc L st0 σ := by
  subst hp; subst hst
  obtain ⟨p, l, e, R, s, m, args, below, meth, c, cells, slots, Q, G⟩ := E
  obtain ⟨hx, hb, hml, hown, hts, hX, hZ, hD, hB, hR1, hR2, hR3, hR4⟩ := hc
  obtain ⟨⟨hm1, hm2, hm3, hm4⟩, hm5, hm6, hm7⟩ := hm
  subst hml
  intro H locs ls hP hS hl
  have hcw : CallW R s args own M.1.cls index M.1 M.2.1 M.2.2.1 M.2.2.2 (.code M.1 M.2.1 M.2.2.1 M.2.2.2 :: jv_WS) (jv_R d' 0 0) 0 0 n := by
    refine cwV (Ts := jv_WS) n hts (goodIn_app (fun w hw => ?_) (jv_goodc hm1)) rfl rfl rfl ⟨rfl, hm3⟩ ⟨?_, ?_⟩
    · simp only [List.mem_cons, List.not_mem_nil, or_false] at hw
      rcases hw with rfl | rfl | rfl | rfl
      · exact jv_good _ hm5
      · exact jv_good _ hm6
      · exact jv_good _ hm7
      · exact jv_good _ hm2
    · show d' + 12 + 1 ≤ R.frames
      omega
    · exact jv_loc hm4 hdd hR2
  refine jv_go (G := G) (o := o) (σ' := σ') (rest := st.map (jv_cv G)) (a := (Value.ref (G.2.1 k0) :: As.map (jv_cv G)).toArray)
    (va_runV (cc := cc) (nL := c.maxLocals) (own := own) (n := n) (As := As.map (jv_cv G)) (b := G.2.1 k0) (Ts := jv_WS) ⟨hx, hb, rfl, hown, hts⟩ hM hcw ⟨jv_blind, va_recv hX.1 hP hci (jv_ws_at ho), fun U hU hW => jv_pre (As := .ref k0 :: As) hX hZ hD hB hP hS U hU hW⟩ rfl (by rw [List.length_map]; exact hn) hl.1 ?_ (lv_room (rest := []) (m := m) (pc := pc) (ls := ls) (jv_sum hroom)) hd ⟨by omega, by omega⟩) hS (fun H1 locs1 hP1 hS1 => ?_)
  · show List.map (jv_cv G) (As.reverse ++ .ref k0 :: st) = _
    rw [List.map_append, List.map_reverse]; rfl
  · have := k H1 locs1 ls hP1 hS1 hl
    rw [List.map_append] at this
    cases o <;> exact this
theorem jv_callS {n : Nat} (hc : jv_Cx E own cc nL d) (hd : decode cc pc = .ok (.invokestatic index, 3)) (hp : pc + 3 = pc') (hm : jv_MS own index M n) (hM : jv_Cn (jv_g E) (jv_l E) d' M As σ o σ')
    (hn : As.length = n) (hdd : d' < d) (hst : As.reverse ++ st = st0) (hroom : (st.map fun v => v.category).sum ≤ 8)
    (k : jv_V E pc' L (o.toList ++ st) σ') : jv_V E pc L st0 σ := by
  subst hp; subst hst
  obtain ⟨p, l, e, R, s, m, args, below, meth, c, cells, slots, Q, G⟩ := E
  obtain ⟨hx, hb, hml, hown, hts, hX, hZ, hD, hB, hR1, hR2, hR3, hR4⟩ := hc
  obtain ⟨⟨hm1, hm2, hm3, hm4⟩, hm5, hm6⟩ := hm
  subst hml
  intro H locs ls hP hS hl
  have hcw : CallB R s args own index M.1 M.2.1 M.2.2.1 M.2.2.2 (.code M.1 M.2.1 M.2.2.1 M.2.2.2 :: jv_WS) (jv_R d' 0 0) 0 0 n ∧ (Cond.static M.1).before args s = true := by
    refine ⟨callB_of (Ts := jv_WS) n hts (jv_goodc hm1) rfl rfl rfl (hts _ hm2) (hts _ hm5) hm3 ⟨?_, ?_⟩, hts _ hm6⟩
    · show d' + 12 + 1 ≤ R.frames
      omega
    · exact jv_loc hm4 hdd hR2
  refine jv_go (G := G) (o := o) (σ' := σ') (rest := st.map (jv_cv G)) (a := (As.map (jv_cv G)).toArray)
    (va_runS (cc := cc) (nL := c.maxLocals) (own := own) (n := n) (As := As.map (jv_cv G)) (Ts := jv_WS) ⟨hx, hb, rfl, hown, hts⟩ hM hcw ⟨jv_blind, fun U hU hW => jv_pre hX hZ hD hB hP hS U hU hW⟩ rfl (by rw [List.length_map]; exact hn) hl.1 ?_ (lv_room (rest := []) (m := m) (pc := pc) (ls := ls) (jv_sum hroom)) hd ⟨by omega, by omega⟩) hS (fun H1 locs1 hP1 hS1 => ?_)
  · show List.map (jv_cv G) (As.reverse ++ st) = _
    rw [List.map_append, List.map_reverse]
  · have := k H1 locs1 ls hP1 hS1 hl
    rw [List.map_append] at this
    cases o <;> exact this
theorem jv_callN {n : Nat} {host : String} (hc : jv_Cx E own cc nL d) (hd : decode cc pc = .ok (.invokestatic index, 3)) (hp : pc + 3 = pc') (hm : jv_MN own index host M n) (hM : jv_Cn (jv_g E) (jv_l E) d' M As σ o σ')
    (hn : As.length = n) (hdd : d' < d) (hst : As.reverse ++ st = st0) (hroom : (st.map fun v => v.category).sum ≤ 8)
    (k : jv_V E pc' L (o.toList ++ st) σ') : jv_V E pc L st0 σ := by
  subst hp; subst hst
  obtain ⟨p, l, e, R, s, m, args, below, meth, c, cells, slots, Q, G⟩ := E
  obtain ⟨hx, hb, hml, hown, hts, hX, hZ, hD, hB, hR1, hR2, hR3, hR4⟩ := hc
  obtain ⟨⟨hm1, hm2, hm3, hm4⟩, hm5, hm6⟩ := hm
  subst hml
  intro H locs ls hP hS hl
  have hcw : va_CN R s args own index M.1 host M.2.1 M.2.2.1 M.2.2.2 (.code M.1 M.2.1 M.2.2.1 M.2.2.2 :: jv_WS) (jv_R d' 0 0) 0 0 n ∧ (Cond.static M.1).before args s = true ∧ True := by
    refine ⟨va_cnB (Ts := jv_WS) n hts (jv_goodc hm1) rfl rfl rfl (hX.2.1 _ hm5 rfl) (hts _ hm2) hm3 ⟨?_, ?_⟩, hts _ hm6, trivial⟩
    · show d' + 12 + 1 ≤ R.frames
      omega
    · exact jv_loc hm4 hdd hR2
  refine jv_go (G := G) (o := o) (σ' := σ') (rest := st.map (jv_cv G)) (a := (As.map (jv_cv G)).toArray)
    (va_runSN (cc := cc) (nL := c.maxLocals) (own := own) (n := n) (As := As.map (jv_cv G)) (Ts := jv_WS) ⟨hx, hb, rfl, hown, hts⟩ hM hcw ⟨jv_blind, fun U hU hW => jv_pre hX hZ hD hB hP hS U hU hW⟩ rfl (by rw [List.length_map]; exact hn) hl.1 ?_ (lv_room (rest := []) (m := m) (pc := pc) (ls := ls) (jv_sum hroom)) hd ⟨by omega, by omega⟩) hS (fun H1 locs1 hP1 hS1 => ?_)
  · show List.map (jv_cv G) (As.reverse ++ st) = _
    rw [List.map_append, List.map_reverse]
  · have := k H1 locs1 ls hP1 hS1 hl
    rw [List.map_append] at this
    cases o <;> exact this
/-- what the frame owes when E0 comes out of it with the store σ' -/
def jv_Th (E : jv_E) (E0 : String) (σ' : jv_S) : Prop := match E with
  | (_, l, _, _, s, _, args, below, meth, c, cells, slots, Q, G) => Q = vx_MQ below jv_QF (jv_XC G E0 σ') args s 1 6 (jv_A G) ∧ (∀ x ∈ c.exceptionTable.toList, False) ∧ meth.locks = false ∧ cells = 0 ∧ slots = 0 ∧ l.stackTraces = false
theorem jv_out {l : Launch} {p : Program} {e : Env} {R : Room} {s : State} {m : MethodId} {args : Array Value} {below : List Frame} {meth : Method} {c : Code} {H : Heap} {locs : List Loc} {G : jv_G} {E0 : String} {σ : jv_S} {pc : Nat} {ls : Array Slot} {rest : List Value} {ce : Cell} {q : Addr}
    (ht : ∀ x ∈ c.exceptionTable.toList, False) (hlocks : meth.locks = false) (hP : va_P G.1 vwCl (jv_ws G jv_os σ) H) (hS : va_S (jv_A G) s.heap H locs) (hcell : H[q]? = some ce) (hv : ce.vm = .none) (hcl : s.vm.findClass E0 = some ce.cls) :
    vx_W p l e R s m args below meth c H locs 1 6 (vx_MQ below jv_QF (jv_XC G E0 σ) args s 1 6 (jv_A G)) (F0 m pc ls rest) q :=
  vx_out (fun x hx => (ht x hx).elim) hlocks hcell hv hcl (fun t ht hA => ⟨rfl, by rw [ht]; exact hP, hS.F ht⟩) (fun z hz => hS.2.2 z hz) (Nat.le_refl _) (Nat.le_refl _)
/-- a call that throws, out of a frame that doesn't catch -/
theorem jv_callVt {k0 ci : Nat} {fc : List Nat} {n : Nat} {T : u_T} {N : Nat} {E0 : String} (hc : jv_Cx E own cc nL d) (hT : jv_Th E E0 σ') (hd : decode cc pc = .ok (.invokevirtual index, 3)) (hm : jv_MV own index M n) (hM : jv_Ct (jv_g E) (jv_l E) d' M (.ref k0 :: As) σ E0 σ') (hR : 1 ≤ E.2.2.2.1.cells ∧ 6 ≤ E.2.2.2.1.slots)
    (hn : As.length = n) (ho : jv_os[k0]? = some (.inl (ci, fc))) (hci : vwCl[ci]? = some (M.1.cls, T, N)) (hdd : d' < d) (hst : As.reverse ++ .ref k0 :: st = st0) (hroom : (st.map fun v => v.category).sum ≤ 8) : jv_V E pc L st0 σ := by
  subst hst
  obtain ⟨p, l, e, R, s, m, args, below, meth, c, cells, slots, Q, G⟩ := E
  obtain ⟨hx, hb, hml, hown, hts, hX, hZ, hD, hB, hR1, hR2, hR3, hR4⟩ := hc
  obtain ⟨⟨hm1, hm2, hm3, hm4⟩, hm5, hm6, hm7⟩ := hm
  obtain ⟨hQ, ht, hlk, hc0, hs0, -⟩ := hT
  subst hml; subst hQ; subst hc0; subst hs0
  intro H locs ls hP hS hl
  have hcw : CallW R s args own M.1.cls index M.1 M.2.1 M.2.2.1 M.2.2.2 (.code M.1 M.2.1 M.2.2.1 M.2.2.2 :: jv_WS) (jv_R d' 1 6) 1 6 n := by
    refine cwV (Ts := jv_WS) n hts (goodIn_app (fun w hw => ?_) (jv_goodc hm1)) rfl rfl rfl ⟨rfl, hm3⟩ ⟨?_, ?_⟩
    · simp only [List.mem_cons, List.not_mem_nil, or_false] at hw
      rcases hw with rfl | rfl | rfl | rfl
      · exact jv_good _ hm5
      · exact jv_good _ hm6
      · exact jv_good _ hm7
      · exact jv_good _ hm2
    · show d' + 12 + 1 ≤ R.frames
      omega
    · exact jv_loc hm4 hdd hR2
  refine jv_goX (G := G) (E0 := E0) (σ' := σ') (rest := st.map (jv_cv G)) (a := (Value.ref (G.2.1 k0) :: As.map (jv_cv G)).toArray)
    (vx_runV (cc := cc) (nL := c.maxLocals) (own := own) (n := n) (As := As.map (jv_cv G)) (b := G.2.1 k0) (Ts := jv_WS) ⟨hx, hb, rfl, hown, hts⟩ hM hcw ⟨jv_blind, va_recv hX.1 hP hci (jv_ws_at ho), fun U hU hW => jv_pre (As := .ref k0 :: As) hX hZ hD hB hP hS U hU hW⟩ rfl (by rw [List.length_map]; exact hn) hl.1 ?_ (lv_room (rest := []) (m := m) (pc := pc) (ls := ls) (jv_sum hroom)) hd ⟨by have := hR.1; show 0 + 1 ≤ R.cells; simpa using this, by have := hR.2; show 0 + 6 ≤ R.slots; simpa using this⟩) hS (fun ce q H1 locs1 hP1 hS1 h1 h2 h3 => jv_out ht hlk hP1 hS1 h1 h2 h3)
  show List.map (jv_cv G) (As.reverse ++ .ref k0 :: st) = _
  rw [List.map_append, List.map_reverse]; rfl
theorem jv_callSt {n : Nat} {E0 : String} (hc : jv_Cx E own cc nL d) (hT : jv_Th E E0 σ') (hd : decode cc pc = .ok (.invokestatic index, 3)) (hm : jv_MS own index M n) (hM : jv_Ct (jv_g E) (jv_l E) d' M As σ E0 σ') (hR : 1 ≤ E.2.2.2.1.cells ∧ 6 ≤ E.2.2.2.1.slots)
    (hn : As.length = n) (hdd : d' < d) (hst : As.reverse ++ st = st0) (hroom : (st.map fun v => v.category).sum ≤ 8) : jv_V E pc L st0 σ := by
  subst hst
  obtain ⟨p, l, e, R, s, m, args, below, meth, c, cells, slots, Q, G⟩ := E
  obtain ⟨hx, hb, hml, hown, hts, hX, hZ, hD, hB, hR1, hR2, hR3, hR4⟩ := hc
  obtain ⟨⟨hm1, hm2, hm3, hm4⟩, hm5, hm6⟩ := hm
  obtain ⟨hQ, ht, hlk, hc0, hs0, -⟩ := hT
  subst hml; subst hQ; subst hc0; subst hs0
  intro H locs ls hP hS hl
  have hcw : CallB R s args own index M.1 M.2.1 M.2.2.1 M.2.2.2 (.code M.1 M.2.1 M.2.2.1 M.2.2.2 :: jv_WS) (jv_R d' 1 6) 1 6 n ∧ (Cond.static M.1).before args s = true := by
    refine ⟨callB_of (Ts := jv_WS) n hts (jv_goodc hm1) rfl rfl rfl (hts _ hm2) (hts _ hm5) hm3 ⟨?_, ?_⟩, hts _ hm6⟩
    · show d' + 12 + 1 ≤ R.frames
      omega
    · exact jv_loc hm4 hdd hR2
  refine jv_goX (G := G) (E0 := E0) (σ' := σ') (rest := st.map (jv_cv G)) (a := (As.map (jv_cv G)).toArray)
    (vx_runS (cc := cc) (nL := c.maxLocals) (own := own) (n := n) (As := As.map (jv_cv G)) (Ts := jv_WS) ⟨hx, hb, rfl, hown, hts⟩ hM hcw ⟨jv_blind, fun U hU hW => jv_pre hX hZ hD hB hP hS U hU hW⟩ rfl (by rw [List.length_map]; exact hn) hl.1 ?_ (lv_room (rest := []) (m := m) (pc := pc) (ls := ls) (jv_sum hroom)) hd ⟨by have := hR.1; show 0 + 1 ≤ R.cells; simpa using this, by have := hR.2; show 0 + 6 ≤ R.slots; simpa using this⟩) hS (fun ce q H1 locs1 hP1 hS1 h1 h2 h3 => jv_out ht hlk hP1 hS1 h1 h2 h3)
  show List.map (jv_cv G) (As.reverse ++ st) = _
  rw [List.map_append, List.map_reverse]
/-- a place where 'throw new E0(text)' stands in the class RX7 -/
def jv_Ts (E0 text : String) (ik is ic : Nat) : Prop := Bundle.fit E0 = true ∧ Cond.classLink RX7 ik E0 ∈ jv_WS ∧ Cond.initialized E0 ∈ jv_WS ∧ (is, text) ∈ jv_strs ∧ (∀ w ∈ vx_atS RX7 ic E0 ["java/lang/RuntimeException", "java/lang/Exception"], w ∈ lw_tbl ∧ (goodWord w || jv_nest w) = true)
theorem jv_nest_tab {w : Cond} (h : jv_nest w = true) : w.onTables = true := by cases w <;> first | rfl | cases h
theorem jv_throw {E0 text : String} {ik is ic : Nat} (hc : jv_Cx E RX7 cc nL d) (hT : jv_Th E E0 σ) (hR : 1 ≤ E.2.2.2.1.cells ∧ 6 ≤ E.2.2.2.1.slots) (ht : jv_Ts E0 text ik is ic)
    (d0 : decode cc pc = .ok (.new ik, 3)) (d3 : decode cc (pc + 3) = .ok (.dup, 1)) (d4 : decode cc (pc + 4) = .ok (.ldc is, 2)) (d6 : decode cc (pc + 6) = .ok (.invokespecial ic, 3)) (d9 : decode cc (pc + 9) = .ok (.athrow, 1))
    (hroom : (st.map fun v => v.category).sum ≤ 8) : jv_V E pc L st σ := by
  obtain ⟨p, l, e, R, s, m, args, below, meth, c, cells, slots, Q, G⟩ := E
  obtain ⟨hx, hb, hml, hown, hts, hX, hZ, hD, hB, hR1, hR2, hR3, hR4⟩ := hc
  obtain ⟨hQ, hnt, hlk, hc0, hs0, hl0⟩ := hT
  obtain ⟨t1, t2, t3, t4, t5⟩ := ht
  subst hml; subst hQ; subst hc0; subst hs0
  intro H locs ls hP hS hl
  obtain ⟨sa, hstr⟩ := hX.2.2.2 _ t4
  have hat : ∀ w ∈ vx_atS RX7 ic E0 ["java/lang/RuntimeException", "java/lang/Exception"], w.before args s = true := by
    intro w hw
    obtain ⟨h1, h2⟩ := t5 w hw
    rcases Bool.or_eq_true _ _ ▸ h2 with g | g
    · exact hts w (jv_w h1 g)
    · exact va_Nw.use (jv_nest_tab g) (hX.2.1 w h1 g)
  have hgood : ∀ w ∈ Cond.classLink RX7 ik E0 :: Cond.initialized E0 :: vx_atS RX7 ic E0 ["java/lang/RuntimeException", "java/lang/Exception"], vx_ot w = true := by
    intro w hw
    rcases List.mem_cons.mp hw with rfl | hw
    · rfl
    · rcases List.mem_cons.mp hw with rfl | hw
      · rfl
      · obtain ⟨h1, h2⟩ := t5 w hw
        unfold vx_ot
        rcases Bool.or_eq_true _ _ ▸ h2 with g | g
        · rw [g, Bool.or_true]
        · rw [jv_nest_tab g, Bool.true_or]
  have h8 := jv_sum (G := G) hroom
  refine vx_throwS (own := RX7) (cls := E0) (text := text) (names := ["java/lang/RuntimeException", "java/lang/Exception"]) (ik := ik) (is := is) (ic := ic) (sa := sa) (A := jv_A G) hx hb hl0 hown t1 (by decide +kernel) (hts _ t2) (hts _ t3) hstr hat hgood hZ.1 hZ.2 hS hl.1 d0 d3 d4 d6 d9 (fun x hx => (hnt x hx).elim) ?_ ?_ ?_ ?_ hlk (fun t hA h1 h2 => ⟨rfl, fun k q hk => ?_, ?_⟩) (fun z hz => hS.2.2 z hz) (Nat.le_refl _) (Nat.le_refl _)
  · show 2 + 3 < R.frames
    omega
  · show _ + (13 * (2 + 1) + 43) ≤ R.locals
    omega
  · have := hR.1
    show 0 + 1 ≤ R.cells
    simpa using this
  · have := hR.2
    show 0 + 6 ≤ R.slots
    simpa using this
  · exact (hP k q hk).kept (h2 q.1 (vx_lt hP hk))
  · exact ⟨Nat.le_trans hS.1 h1, fun q hq hn => by rw [h2 q (Nat.lt_of_lt_of_le hq hS.1)]; exact hS.2.1 q hq hn⟩
/-- the instruction that gives an answer -/
def jv_ri : Option Value → Instr
  | none => .return_
  | some (.long _) => .lreturn
  | some _ => .ireturn
def jv_Rt (E : jv_E) (cc : ByteArray) (o : Option Value) (σ' : jv_S) : Prop := ∀ (pc : Nat) (L : List (Option Value)), decode cc pc = .ok (jv_ri o, 1) → jv_V E pc L o.toList σ'
/-- an answer that fits what the method's name says -/
def jv_ok (ret : Option FieldType) (o : Option Value) : Prop := match o with
  | none => ret = none
  | some (.int v) => ∃ ty, ret = some ty ∧ narrow ty (.int v) = .int v
  | some (.long _) => ret = some .long
  | _ => False
theorem jv_sln (G : jv_G) (As : List Value) : (lg_sl (As.map (jv_cv G))).length = (jv_args As).length := by
  induction As with
  | nil => rfl
  | cons v t ih =>
    simp only [lg_sl, List.map_cons, List.flatMap_cons, List.length_append, jv_cv_cat] at ih ⊢
    by_cases h : v.category = 2
    · simp only [jv_args, if_pos h, List.length_cons, List.length_nil]
      omega
    · simp only [jv_args, if_neg h, List.length_cons, List.length_nil]
      omega
theorem jv_entry {G : jv_G} {As : List Value} {nL : Nat} {L0 : List (Option Value)} (hlen : (jv_args As).length ≤ nL) (hL : jv_args As ++ List.replicate (nL - (jv_args As).length) none = L0) :
    lv_has ((lg_sl (As.map (jv_cv G)) ++ List.replicate (nL - (lg_sl (As.map (jv_cv G))).length) Slot.unset).toArray) nL (jv_lst G 0 L0) := by
  subst hL
  rw [jv_lst_none, jv_args_lst]
  exact lv_entry _ (by rw [jv_sln]; exact hlen)
theorem jv_of {G : jv_G} {l : Launch} {M : jv_M} {L0 : List (Option Value)} (hy : plainName M.1.cls = true) (hlen : (jv_args As).length ≤ M.2.2.1) (hL : jv_args As ++ List.replicate (M.2.2.1 - (jv_args As).length) none = L0) (hok : jv_ok M.2.2.2 o)
    (body : ∀ E : jv_E, jv_l E = l → jv_g E = G → jv_Cx E M.1.cls M.2.1 M.2.2.1 d → jv_Rt E M.2.1 o σ' → jv_V E 0 L0 [] σ) : jv_Cn G l d M As σ o σ' := by
  refine Met.ofW (cc := M.2.1) (maxL := M.2.2.1) (ret := M.2.2.2) hy rfl ?_
  intro p e s m args below meth c s₁ B hml hv
  obtain ⟨rfl, hX, hZ, hP, hD, hB⟩ := hv
  have hx := B.exec
  have hb := B.bytes
  have hr := B.returns
  have hts := atoms_spec (ws := .code M.1 M.2.1 M.2.2.1 M.2.2.2 :: jv_WS) B.pre
  have hown : s.vm.findClass M.1.cls = some m.cls := findClass_of_methodNamed B.named
  have hlocks := B.notSynchronized
  have hcx : jv_Cx (p, l, e, jv_R d 0 0, s, m, (As.map (jv_cv G)).toArray, below, meth, c, 0, 0, MQ below (jv_Q G o σ') (As.map (jv_cv G)).toArray s 0 0 (jv_A G), G) M.1.cls M.2.1 M.2.2.1 d :=
    ⟨hx, hb, hml, hown, fun w hw => hts w (List.mem_cons_of_mem _ hw), hX, hZ, hD, hB, Nat.le_refl _, Nat.le_refl _, Nat.le_refl _, Nat.le_refl _⟩
  have hrt : jv_Rt (p, l, e, jv_R d 0 0, s, m, (As.map (jv_cv G)).toArray, below, meth, c, 0, 0, MQ below (jv_Q G o σ') (As.map (jv_cv G)).toArray s 0 0 (jv_A G), G) M.2.1 o σ' := by
    intro pc L hd H locs ls hP hS hl
    match o, hok, hd with
    | none, hok, hd => exact W.vret hx hb (hr.trans hok) (fun t ht hW => ⟨rfl, by rw [ht]; exact hP, hS.F ht⟩) hS.2.2 hd
    | some (.int v), ⟨ty, h1, h2⟩, hd => exact W.zret hx hb (hr.trans h1) h2 (fun t ht hW => ⟨rfl, by rw [ht]; exact hP, hS.F ht⟩) hS.2.2 hd
    | some (.long v), hok, hd => exact W.lret hx hb (hr.trans hok) (fun t ht hW => ⟨rfl, by rw [ht]; exact hP, hS.F ht⟩) hS.2.2 hd
  have hv := body _ rfl rfl hcx hrt
  rw [lg_entry_eq]
  exact hv s.heap [] _ hP va_S.rf (by show lv_has _ c.maxLocals _; rw [hml]; exact jv_entry hlen hL)
theorem jv_oft {G : jv_G} {l : Launch} {M : jv_M} {L0 : List (Option Value)} {E0 : String} (hl0 : l.stackTraces = false) (hy : plainName M.1.cls = true) (hlen : (jv_args As).length ≤ M.2.2.1) (hL : jv_args As ++ List.replicate (M.2.2.1 - (jv_args As).length) none = L0)
    (body : ∀ E : jv_E, jv_l E = l → jv_g E = G → jv_Cx E M.1.cls M.2.1 M.2.2.1 d → 1 ≤ E.2.2.2.1.cells ∧ 6 ≤ E.2.2.2.1.slots → jv_Th E E0 σ' → jv_V E 0 L0 [] σ) : jv_Ct G l d M As σ E0 σ' := by
  refine vx_ofW (cc := M.2.1) (maxL := M.2.2.1) (ret := M.2.2.2) hy rfl ?_
  intro p e s m args below meth c s₁ B hml hnt hv
  obtain ⟨rfl, hX, hZ, hP, hD, hB⟩ := hv
  have hx := B.exec
  have hb := B.bytes
  have hts := atoms_spec (ws := .code M.1 M.2.1 M.2.2.1 M.2.2.2 :: jv_WS) B.pre
  have hown : s.vm.findClass M.1.cls = some m.cls := findClass_of_methodNamed B.named
  have hcx : jv_Cx (p, l, e, jv_R d 1 6, s, m, (As.map (jv_cv G)).toArray, below, meth, c, 0, 0, vx_MQ below jv_QF (jv_XC G E0 σ') (As.map (jv_cv G)).toArray s 1 6 (jv_A G), G) M.1.cls M.2.1 M.2.2.1 d :=
    ⟨hx, hb, hml, hown, fun w hw => hts w (List.mem_cons_of_mem _ hw), hX, hZ, hD, hB, Nat.le_refl _, Nat.le_refl _, Nat.zero_le _, Nat.zero_le _⟩
  have hv := body _ rfl rfl hcx ⟨Nat.le_refl _, Nat.le_refl _⟩ ⟨rfl, hnt, B.notSynchronized, rfl, rfl, hl0⟩
  rw [lg_entry_eq]
  exact hv s.heap [] _ hP va_S.rf (by show lv_has _ c.maxLocals _; rw [hml]; exact jv_entry hlen hL)
end JVCALLS2
end
section
theorem inW_X0 : ∀ w ∈ u_ws RX0 TX0 4, w ∈ jv_WS := fun w h => jv_w ((show ∀ w ∈ u_ws RX0 TX0 4, w ∈ lw_tbl by decide +kernel) w h) ((show ∀ w ∈ u_ws RX0 TX0 4, goodWord w = true by decide +kernel) w h)
theorem inW_X1 : ∀ w ∈ u_ws RX1 TX1 10, w ∈ jv_WS := fun w h => jv_w ((show ∀ w ∈ u_ws RX1 TX1 10, w ∈ lw_tbl by decide +kernel) w h) ((show ∀ w ∈ u_ws RX1 TX1 10, goodWord w = true by decide +kernel) w h)
theorem inW_X2 : ∀ w ∈ u_ws RX2 TX2 2, w ∈ jv_WS := fun w h => jv_w ((show ∀ w ∈ u_ws RX2 TX2 2, w ∈ lw_tbl by decide +kernel) w h) ((show ∀ w ∈ u_ws RX2 TX2 2, goodWord w = true by decide +kernel) w h)
theorem inW_X3 : ∀ w ∈ u_ws RX3 TX3 10, w ∈ jv_WS := fun w h => jv_w ((show ∀ w ∈ u_ws RX3 TX3 10, w ∈ lw_tbl by decide +kernel) w h) ((show ∀ w ∈ u_ws RX3 TX3 10, goodWord w = true by decide +kernel) w h)
theorem inW_X4 : ∀ w ∈ u_ws RX4 TX4 3, w ∈ jv_WS := fun w h => jv_w ((show ∀ w ∈ u_ws RX4 TX4 3, w ∈ lw_tbl by decide +kernel) w h) ((show ∀ w ∈ u_ws RX4 TX4 3, goodWord w = true by decide +kernel) w h)
theorem inW_X5 : ∀ w ∈ u_ws RX5 TX5 9, w ∈ jv_WS := fun w h => jv_w ((show ∀ w ∈ u_ws RX5 TX5 9, w ∈ lw_tbl by decide +kernel) w h) ((show ∀ w ∈ u_ws RX5 TX5 9, goodWord w = true by decide +kernel) w h)
theorem inW_X6 : ∀ w ∈ u_ws RX6 TX6 9, w ∈ jv_WS := fun w h => jv_w ((show ∀ w ∈ u_ws RX6 TX6 9, w ∈ lw_tbl by decide +kernel) w h) ((show ∀ w ∈ u_ws RX6 TX6 9, goodWord w = true by decide +kernel) w h)
theorem inW_X7 : ∀ w ∈ u_ws RX7 TX7 9, w ∈ jv_WS := fun w h => jv_w ((show ∀ w ∈ u_ws RX7 TX7 9, w ∈ lw_tbl by decide +kernel) w h) ((show ∀ w ∈ u_ws RX7 TX7 9, goodWord w = true by decide +kernel) w h)
theorem inW_X8 : ∀ w ∈ u_ws RX8 TX8 44, w ∈ jv_WS := fun w h => jv_w ((show ∀ w ∈ u_ws RX8 TX8 44, w ∈ lw_tbl by decide +kernel) w h) ((show ∀ w ∈ u_ws RX8 TX8 44, goodWord w = true by decide +kernel) w h)
theorem lF_X7_10 : jv_F RX7 10 7 0 := ⟨RX7, TX7, 9, rfl, by decide, inW_X7, (jv_w (jv_tb 222 (by decide +kernel)) rfl)⟩
theorem lF_X7_21 : jv_F RX7 21 7 1 := ⟨RX7, TX7, 9, rfl, by decide, inW_X7, (jv_w (jv_tb 223 (by decide +kernel)) rfl)⟩
theorem lF_X7_28 : jv_F RX7 28 7 2 := ⟨RX7, TX7, 9, rfl, by decide, inW_X7, (jv_w (jv_tb 224 (by decide +kernel)) rfl)⟩
theorem lF_X7_35 : jv_F RX7 35 7 3 := ⟨RX7, TX7, 9, rfl, by decide, inW_X7, (jv_w (jv_tb 225 (by decide +kernel)) rfl)⟩
theorem lF_X7_42 : jv_F RX7 42 7 4 := ⟨RX7, TX7, 9, rfl, by decide, inW_X7, (jv_w (jv_tb 226 (by decide +kernel)) rfl)⟩
theorem lF_X7_49 : jv_F RX7 49 7 5 := ⟨RX7, TX7, 9, rfl, by decide, inW_X7, (jv_w (jv_tb 227 (by decide +kernel)) rfl)⟩
theorem lF_X7_56 : jv_F RX7 56 7 6 := ⟨RX7, TX7, 9, rfl, by decide, inW_X7, (jv_w (jv_tb 228 (by decide +kernel)) rfl)⟩
theorem lF_X7_145 : jv_F RX7 145 7 7 := ⟨RX7, TX7, 9, rfl, by decide, inW_X7, (jv_w (jv_tb 229 (by decide +kernel)) rfl)⟩
theorem lP_X7_145 : jv_Fp RX7 145 7 7 .boolean := ⟨RX7, TX7, 9, tyX7, rfl, by decide, inW_X7, (jv_w (jv_tb 229 (by decide +kernel)) rfl), tyX7_ok, nmX7, rfl, by decide +kernel⟩
theorem lF_X7_184 : jv_F RX7 184 7 8 := ⟨RX7, TX7, 9, rfl, by decide, inW_X7, (jv_w (jv_tb 230 (by decide +kernel)) rfl)⟩
theorem lP_X7_184 : jv_Fp RX7 184 7 8 .boolean := ⟨RX7, TX7, 9, tyX7, rfl, by decide, inW_X7, (jv_w (jv_tb 230 (by decide +kernel)) rfl), tyX7_ok, nmX7, rfl, by decide +kernel⟩
theorem lF_X0_9 : jv_F RX0 9 0 1 := ⟨RX0, TX0, 4, rfl, by decide, inW_X0, (jv_w (jv_tb 210 (by decide +kernel)) rfl)⟩
theorem lF_X0_15 : jv_F RX0 15 0 2 := ⟨RX0, TX0, 4, rfl, by decide, inW_X0, (jv_w (jv_tb 211 (by decide +kernel)) rfl)⟩
theorem lF_X0_18 : jv_F RX0 18 0 0 := ⟨RX0, TX0, 4, rfl, by decide, inW_X0, (jv_w (jv_tb 209 (by decide +kernel)) rfl)⟩
theorem lF_X0_22 : jv_F RX0 22 0 3 := ⟨RX0, TX0, 4, rfl, by decide, inW_X0, (jv_w (jv_tb 212 (by decide +kernel)) rfl)⟩
theorem lP_X0_22 : jv_Fp RX0 22 0 3 .int := ⟨RX0, TX0, 4, tyX0, rfl, by decide, inW_X0, (jv_w (jv_tb 212 (by decide +kernel)) rfl), tyX0_ok, nmX0, rfl, by decide +kernel⟩
theorem lF_X1_11 : jv_F RX1 11 1 1 := ⟨RX1, TX1, 10, rfl, by decide, inW_X1, (jv_w (jv_tb 173 (by decide +kernel)) rfl)⟩
theorem lF_X1_15 : jv_F RX1 15 1 2 := ⟨RX1, TX1, 10, rfl, by decide, inW_X1, (jv_w (jv_tb 174 (by decide +kernel)) rfl)⟩
theorem lF_X1_18 : jv_F RX1 18 1 3 := ⟨RX1, TX1, 10, rfl, by decide, inW_X1, (jv_w (jv_tb 175 (by decide +kernel)) rfl)⟩
theorem lF_X1_21 : jv_F RX1 21 1 4 := ⟨RX1, TX1, 10, rfl, by decide, inW_X1, (jv_w (jv_tb 176 (by decide +kernel)) rfl)⟩
theorem lF_X1_24 : jv_F RX1 24 1 5 := ⟨RX1, TX1, 10, rfl, by decide, inW_X1, (jv_w (jv_tb 177 (by decide +kernel)) rfl)⟩
theorem lF_X1_27 : jv_F RX1 27 1 6 := ⟨RX1, TX1, 10, rfl, by decide, inW_X1, (jv_w (jv_tb 178 (by decide +kernel)) rfl)⟩
theorem lF_X1_30 : jv_F RX1 30 1 7 := ⟨RX1, TX1, 10, rfl, by decide, inW_X1, (jv_w (jv_tb 179 (by decide +kernel)) rfl)⟩
theorem lF_X1_33 : jv_F RX1 33 1 0 := ⟨RX1, TX1, 10, rfl, by decide, inW_X1, (jv_w (jv_tb 172 (by decide +kernel)) rfl)⟩
theorem lF_X1_50 : jv_F RX1 50 1 8 := ⟨RX1, TX1, 10, rfl, by decide, inW_X1, (jv_w (jv_tb 180 (by decide +kernel)) rfl)⟩
theorem lP_X1_50 : jv_Fp RX1 50 1 8 .int := ⟨RX1, TX1, 10, tyX1, rfl, by decide, inW_X1, (jv_w (jv_tb 180 (by decide +kernel)) rfl), tyX1_ok, nmX1, rfl, by decide +kernel⟩
theorem lF_X1_57 : jv_F RX1 57 1 9 := ⟨RX1, TX1, 10, rfl, by decide, inW_X1, (jv_w (jv_tb 181 (by decide +kernel)) rfl)⟩
theorem lP_X1_57 : jv_Fp RX1 57 1 9 .int := ⟨RX1, TX1, 10, tyX1, rfl, by decide, inW_X1, (jv_w (jv_tb 181 (by decide +kernel)) rfl), tyX1_ok, nmX1, rfl, by decide +kernel⟩
theorem lF_X2_9 : jv_F RX2 9 2 1 := ⟨RX2, TX2, 2, rfl, by decide, inW_X2, (jv_w (jv_tb 71 (by decide +kernel)) rfl)⟩
theorem lF_X2_15 : jv_F RX2 15 2 0 := ⟨RX2, TX2, 2, rfl, by decide, inW_X2, (jv_w (jv_tb 70 (by decide +kernel)) rfl)⟩
theorem lF_X3_9 : jv_F RX3 9 3 0 := ⟨RX3, TX3, 10, rfl, by decide, inW_X3, (jv_w (jv_tb 32 (by decide +kernel)) rfl)⟩
theorem lF_X3_15 : jv_F RX3 15 3 1 := ⟨RX3, TX3, 10, rfl, by decide, inW_X3, (jv_w (jv_tb 33 (by decide +kernel)) rfl)⟩
theorem lF_X3_18 : jv_F RX3 18 3 2 := ⟨RX3, TX3, 10, rfl, by decide, inW_X3, (jv_w (jv_tb 34 (by decide +kernel)) rfl)⟩
theorem lF_X3_21 : jv_F RX3 21 3 3 := ⟨RX3, TX3, 10, rfl, by decide, inW_X3, (jv_w (jv_tb 35 (by decide +kernel)) rfl)⟩
theorem lF_X3_24 : jv_F RX3 24 3 4 := ⟨RX3, TX3, 10, rfl, by decide, inW_X3, (jv_w (jv_tb 36 (by decide +kernel)) rfl)⟩
theorem lF_X3_27 : jv_F RX3 27 3 5 := ⟨RX3, TX3, 10, rfl, by decide, inW_X3, (jv_w (jv_tb 37 (by decide +kernel)) rfl)⟩
theorem lF_X3_30 : jv_F RX3 30 3 6 := ⟨RX3, TX3, 10, rfl, by decide, inW_X3, (jv_w (jv_tb 38 (by decide +kernel)) rfl)⟩
theorem lP_X3_30 : jv_Fp RX3 30 3 6 .int := ⟨RX3, TX3, 10, tyX3, rfl, by decide, inW_X3, (jv_w (jv_tb 38 (by decide +kernel)) rfl), tyX3_ok, nmX3, rfl, by decide +kernel⟩
theorem lF_X3_34 : jv_F RX3 34 3 7 := ⟨RX3, TX3, 10, rfl, by decide, inW_X3, (jv_w (jv_tb 39 (by decide +kernel)) rfl)⟩
theorem lP_X3_34 : jv_Fp RX3 34 3 7 .int := ⟨RX3, TX3, 10, tyX3, rfl, by decide, inW_X3, (jv_w (jv_tb 39 (by decide +kernel)) rfl), tyX3_ok, nmX3, rfl, by decide +kernel⟩
theorem lF_X3_37 : jv_F RX3 37 3 8 := ⟨RX3, TX3, 10, rfl, by decide, inW_X3, (jv_w (jv_tb 40 (by decide +kernel)) rfl)⟩
theorem lP_X3_37 : jv_Fp RX3 37 3 8 .int := ⟨RX3, TX3, 10, tyX3, rfl, by decide, inW_X3, (jv_w (jv_tb 40 (by decide +kernel)) rfl), tyX3_ok, nmX3, rfl, by decide +kernel⟩
theorem lF_X3_40 : jv_F RX3 40 3 9 := ⟨RX3, TX3, 10, rfl, by decide, inW_X3, (jv_w (jv_tb 41 (by decide +kernel)) rfl)⟩
theorem lP_X3_40 : jv_Fp RX3 40 3 9 .int := ⟨RX3, TX3, 10, tyX3, rfl, by decide, inW_X3, (jv_w (jv_tb 41 (by decide +kernel)) rfl), tyX3_ok, nmX3, rfl, by decide +kernel⟩
theorem lF_X4_9 : jv_F RX4 9 4 0 := ⟨RX4, TX4, 3, rfl, by decide, inW_X4, (jv_w (jv_tb 122 (by decide +kernel)) rfl)⟩
theorem lF_X4_20 : jv_F RX4 20 4 1 := ⟨RX4, TX4, 3, rfl, by decide, inW_X4, (jv_w (jv_tb 123 (by decide +kernel)) rfl)⟩
theorem lF_X4_24 : jv_F RX4 24 4 2 := ⟨RX4, TX4, 3, rfl, by decide, inW_X4, (jv_w (jv_tb 124 (by decide +kernel)) rfl)⟩
theorem lP_X4_24 : jv_Fp RX4 24 4 2 .int := ⟨RX4, TX4, 3, tyX4, rfl, by decide, inW_X4, (jv_w (jv_tb 124 (by decide +kernel)) rfl), tyX4_ok, nmX4, rfl, by decide +kernel⟩
theorem lF_X5_11 : jv_F RX5 11 5 2 := ⟨RX5, TX5, 9, rfl, by decide, inW_X5, (jv_w (jv_tb 87 (by decide +kernel)) rfl)⟩
theorem lF_X5_15 : jv_F RX5 15 5 0 := ⟨RX5, TX5, 9, rfl, by decide, inW_X5, (jv_w (jv_tb 85 (by decide +kernel)) rfl)⟩
theorem lF_X5_24 : jv_F RX5 24 5 1 := ⟨RX5, TX5, 9, rfl, by decide, inW_X5, (jv_w (jv_tb 86 (by decide +kernel)) rfl)⟩
theorem lF_X5_28 : jv_F RX5 28 5 5 := ⟨RX5, TX5, 9, rfl, by decide, inW_X5, (jv_w (jv_tb 90 (by decide +kernel)) rfl)⟩
theorem lP_X5_28 : jv_Fp RX5 28 5 5 .int := ⟨RX5, TX5, 9, tyX5, rfl, by decide, inW_X5, (jv_w (jv_tb 90 (by decide +kernel)) rfl), tyX5_ok, nmX5, rfl, by decide +kernel⟩
theorem lF_X5_32 : jv_F RX5 32 5 6 := ⟨RX5, TX5, 9, rfl, by decide, inW_X5, (jv_w (jv_tb 91 (by decide +kernel)) rfl)⟩
theorem lP_X5_32 : jv_Fp RX5 32 5 6 .int := ⟨RX5, TX5, 9, tyX5, rfl, by decide, inW_X5, (jv_w (jv_tb 91 (by decide +kernel)) rfl), tyX5_ok, nmX5, rfl, by decide +kernel⟩
theorem lF_X5_35 : jv_F RX5 35 5 7 := ⟨RX5, TX5, 9, rfl, by decide, inW_X5, (jv_w (jv_tb 92 (by decide +kernel)) rfl)⟩
theorem lP_X5_35 : jv_Fp RX5 35 5 7 .int := ⟨RX5, TX5, 9, tyX5, rfl, by decide, inW_X5, (jv_w (jv_tb 92 (by decide +kernel)) rfl), tyX5_ok, nmX5, rfl, by decide +kernel⟩
theorem lF_X5_38 : jv_F RX5 38 5 8 := ⟨RX5, TX5, 9, rfl, by decide, inW_X5, (jv_w (jv_tb 93 (by decide +kernel)) rfl)⟩
theorem lP_X5_38 : jv_Fp RX5 38 5 8 .long := ⟨RX5, TX5, 9, tyX5, rfl, by decide, inW_X5, (jv_w (jv_tb 93 (by decide +kernel)) rfl), tyX5_ok, nmX5, rfl, by decide +kernel⟩
theorem lF_X5_42 : jv_F RX5 42 5 3 := ⟨RX5, TX5, 9, rfl, by decide, inW_X5, (jv_w (jv_tb 88 (by decide +kernel)) rfl)⟩
theorem lP_X5_42 : jv_Fp RX5 42 5 3 .int := ⟨RX5, TX5, 9, tyX5, rfl, by decide, inW_X5, (jv_w (jv_tb 88 (by decide +kernel)) rfl), tyX5_ok, nmX5, rfl, by decide +kernel⟩
theorem lF_X5_45 : jv_F RX5 45 5 4 := ⟨RX5, TX5, 9, rfl, by decide, inW_X5, (jv_w (jv_tb 89 (by decide +kernel)) rfl)⟩
theorem lP_X5_45 : jv_Fp RX5 45 5 4 .int := ⟨RX5, TX5, 9, tyX5, rfl, by decide, inW_X5, (jv_w (jv_tb 89 (by decide +kernel)) rfl), tyX5_ok, nmX5, rfl, by decide +kernel⟩
theorem lF_X6_11 : jv_F RX6 11 6 1 := ⟨RX6, TX6, 9, rfl, by decide, inW_X6, (jv_w (jv_tb 139 (by decide +kernel)) rfl)⟩
theorem lF_X6_15 : jv_F RX6 15 6 2 := ⟨RX6, TX6, 9, rfl, by decide, inW_X6, (jv_w (jv_tb 140 (by decide +kernel)) rfl)⟩
theorem lF_X6_18 : jv_F RX6 18 6 3 := ⟨RX6, TX6, 9, rfl, by decide, inW_X6, (jv_w (jv_tb 141 (by decide +kernel)) rfl)⟩
theorem lF_X6_21 : jv_F RX6 21 6 4 := ⟨RX6, TX6, 9, rfl, by decide, inW_X6, (jv_w (jv_tb 142 (by decide +kernel)) rfl)⟩
theorem lF_X6_24 : jv_F RX6 24 6 5 := ⟨RX6, TX6, 9, rfl, by decide, inW_X6, (jv_w (jv_tb 143 (by decide +kernel)) rfl)⟩
theorem lF_X6_27 : jv_F RX6 27 6 6 := ⟨RX6, TX6, 9, rfl, by decide, inW_X6, (jv_w (jv_tb 144 (by decide +kernel)) rfl)⟩
theorem lF_X6_30 : jv_F RX6 30 6 0 := ⟨RX6, TX6, 9, rfl, by decide, inW_X6, (jv_w (jv_tb 138 (by decide +kernel)) rfl)⟩
theorem lF_X6_34 : jv_F RX6 34 6 7 := ⟨RX6, TX6, 9, rfl, by decide, inW_X6, (jv_w (jv_tb 145 (by decide +kernel)) rfl)⟩
theorem lP_X6_34 : jv_Fp RX6 34 6 7 .int := ⟨RX6, TX6, 9, tyX6, rfl, by decide, inW_X6, (jv_w (jv_tb 145 (by decide +kernel)) rfl), tyX6_ok, nmX6, rfl, by decide +kernel⟩
theorem lF_X6_38 : jv_F RX6 38 6 8 := ⟨RX6, TX6, 9, rfl, by decide, inW_X6, (jv_w (jv_tb 146 (by decide +kernel)) rfl)⟩
theorem lP_X6_38 : jv_Fp RX6 38 6 8 .int := ⟨RX6, TX6, 9, tyX6, rfl, by decide, inW_X6, (jv_w (jv_tb 146 (by decide +kernel)) rfl), tyX6_ok, nmX6, rfl, by decide +kernel⟩
theorem lF_X8_7 : jv_F RX8 7 8 1 := ⟨RX8, TX8, 44, rfl, by decide, inW_X8, (jv_w (jv_tb 916 (by decide +kernel)) rfl)⟩
theorem lP_X8_7 : jv_Fp RX8 7 8 1 .int := ⟨RX8, TX8, 44, tyX8, rfl, by decide, inW_X8, (jv_w (jv_tb 916 (by decide +kernel)) rfl), tyX8_ok, nmX8, rfl, by decide +kernel⟩
theorem lF_X8_13 : jv_F RX8 13 8 3 := ⟨RX8, TX8, 44, rfl, by decide, inW_X8, (jv_w (jv_tb 918 (by decide +kernel)) rfl)⟩
theorem lF_X8_17 : jv_F RX8 17 8 4 := ⟨RX8, TX8, 44, rfl, by decide, inW_X8, (jv_w (jv_tb 919 (by decide +kernel)) rfl)⟩
theorem lF_X8_20 : jv_F RX8 20 8 5 := ⟨RX8, TX8, 44, rfl, by decide, inW_X8, (jv_w (jv_tb 920 (by decide +kernel)) rfl)⟩
theorem lF_X8_23 : jv_F RX8 23 8 6 := ⟨RX8, TX8, 44, rfl, by decide, inW_X8, (jv_w (jv_tb 921 (by decide +kernel)) rfl)⟩
theorem lF_X8_27 : jv_F RX8 27 8 7 := ⟨RX8, TX8, 44, rfl, by decide, inW_X8, (jv_w (jv_tb 922 (by decide +kernel)) rfl)⟩
theorem lF_X8_30 : jv_F RX8 30 8 8 := ⟨RX8, TX8, 44, rfl, by decide, inW_X8, (jv_w (jv_tb 923 (by decide +kernel)) rfl)⟩
theorem lF_X8_33 : jv_F RX8 33 8 15 := ⟨RX8, TX8, 44, rfl, by decide, inW_X8, (jv_w (jv_tb 930 (by decide +kernel)) rfl)⟩
theorem lF_X8_36 : jv_F RX8 36 8 16 := ⟨RX8, TX8, 44, rfl, by decide, inW_X8, (jv_w (jv_tb 931 (by decide +kernel)) rfl)⟩
theorem lF_X8_39 : jv_F RX8 39 8 17 := ⟨RX8, TX8, 44, rfl, by decide, inW_X8, (jv_w (jv_tb 932 (by decide +kernel)) rfl)⟩
theorem lF_X8_42 : jv_F RX8 42 8 18 := ⟨RX8, TX8, 44, rfl, by decide, inW_X8, (jv_w (jv_tb 933 (by decide +kernel)) rfl)⟩
theorem lF_X8_45 : jv_F RX8 45 8 19 := ⟨RX8, TX8, 44, rfl, by decide, inW_X8, (jv_w (jv_tb 934 (by decide +kernel)) rfl)⟩
theorem lF_X8_48 : jv_F RX8 48 8 20 := ⟨RX8, TX8, 44, rfl, by decide, inW_X8, (jv_w (jv_tb 935 (by decide +kernel)) rfl)⟩
theorem lF_X8_51 : jv_F RX8 51 8 28 := ⟨RX8, TX8, 44, rfl, by decide, inW_X8, (jv_w (jv_tb 943 (by decide +kernel)) rfl)⟩
theorem lF_X8_54 : jv_F RX8 54 8 29 := ⟨RX8, TX8, 44, rfl, by decide, inW_X8, (jv_w (jv_tb 944 (by decide +kernel)) rfl)⟩
theorem lF_X8_57 : jv_F RX8 57 8 30 := ⟨RX8, TX8, 44, rfl, by decide, inW_X8, (jv_w (jv_tb 945 (by decide +kernel)) rfl)⟩
theorem lF_X8_60 : jv_F RX8 60 8 31 := ⟨RX8, TX8, 44, rfl, by decide, inW_X8, (jv_w (jv_tb 946 (by decide +kernel)) rfl)⟩
theorem lF_X8_63 : jv_F RX8 63 8 32 := ⟨RX8, TX8, 44, rfl, by decide, inW_X8, (jv_w (jv_tb 947 (by decide +kernel)) rfl)⟩
theorem lF_X8_66 : jv_F RX8 66 8 34 := ⟨RX8, TX8, 44, rfl, by decide, inW_X8, (jv_w (jv_tb 949 (by decide +kernel)) rfl)⟩
theorem lF_X8_69 : jv_F RX8 69 8 35 := ⟨RX8, TX8, 44, rfl, by decide, inW_X8, (jv_w (jv_tb 950 (by decide +kernel)) rfl)⟩
theorem lF_X8_72 : jv_F RX8 72 8 36 := ⟨RX8, TX8, 44, rfl, by decide, inW_X8, (jv_w (jv_tb 951 (by decide +kernel)) rfl)⟩
theorem lF_X8_75 : jv_F RX8 75 8 37 := ⟨RX8, TX8, 44, rfl, by decide, inW_X8, (jv_w (jv_tb 952 (by decide +kernel)) rfl)⟩
theorem lF_X8_78 : jv_F RX8 78 8 39 := ⟨RX8, TX8, 44, rfl, by decide, inW_X8, (jv_w (jv_tb 954 (by decide +kernel)) rfl)⟩
theorem lF_X8_81 : jv_F RX8 81 8 40 := ⟨RX8, TX8, 44, rfl, by decide, inW_X8, (jv_w (jv_tb 955 (by decide +kernel)) rfl)⟩
theorem lF_X8_84 : jv_F RX8 84 8 41 := ⟨RX8, TX8, 44, rfl, by decide, inW_X8, (jv_w (jv_tb 956 (by decide +kernel)) rfl)⟩
theorem lF_X8_87 : jv_F RX8 87 8 42 := ⟨RX8, TX8, 44, rfl, by decide, inW_X8, (jv_w (jv_tb 957 (by decide +kernel)) rfl)⟩
theorem lF_X8_90 : jv_F RX8 90 8 0 := ⟨RX8, TX8, 44, rfl, by decide, inW_X8, (jv_w (jv_tb 915 (by decide +kernel)) rfl)⟩
theorem lP_X8_90 : jv_Fp RX8 90 8 0 .int := ⟨RX8, TX8, 44, tyX8, rfl, by decide, inW_X8, (jv_w (jv_tb 915 (by decide +kernel)) rfl), tyX8_ok, nmX8, rfl, by decide +kernel⟩
theorem lF_X8_105 : jv_F RX8 105 8 2 := ⟨RX8, TX8, 44, rfl, by decide, inW_X8, (jv_w (jv_tb 917 (by decide +kernel)) rfl)⟩
theorem lP_X8_105 : jv_Fp RX8 105 8 2 .int := ⟨RX8, TX8, 44, tyX8, rfl, by decide, inW_X8, (jv_w (jv_tb 917 (by decide +kernel)) rfl), tyX8_ok, nmX8, rfl, by decide +kernel⟩
theorem lF_X8_108 : jv_F RX8 108 8 9 := ⟨RX8, TX8, 44, rfl, by decide, inW_X8, (jv_w (jv_tb 924 (by decide +kernel)) rfl)⟩
theorem lP_X8_108 : jv_Fp RX8 108 8 9 .boolean := ⟨RX8, TX8, 44, tyX8, rfl, by decide, inW_X8, (jv_w (jv_tb 924 (by decide +kernel)) rfl), tyX8_ok, nmX8, rfl, by decide +kernel⟩
theorem lF_X8_112 : jv_F RX8 112 8 23 := ⟨RX8, TX8, 44, rfl, by decide, inW_X8, (jv_w (jv_tb 938 (by decide +kernel)) rfl)⟩
theorem lP_X8_112 : jv_Fp RX8 112 8 23 .boolean := ⟨RX8, TX8, 44, tyX8, rfl, by decide, inW_X8, (jv_w (jv_tb 938 (by decide +kernel)) rfl), tyX8_ok, nmX8, rfl, by decide +kernel⟩
theorem lF_X8_135 : jv_F RX8 135 8 13 := ⟨RX8, TX8, 44, rfl, by decide, inW_X8, (jv_w (jv_tb 928 (by decide +kernel)) rfl)⟩
theorem lP_X8_135 : jv_Fp RX8 135 8 13 .int := ⟨RX8, TX8, 44, tyX8, rfl, by decide, inW_X8, (jv_w (jv_tb 928 (by decide +kernel)) rfl), tyX8_ok, nmX8, rfl, by decide +kernel⟩
theorem lF_X8_138 : jv_F RX8 138 8 12 := ⟨RX8, TX8, 44, rfl, by decide, inW_X8, (jv_w (jv_tb 927 (by decide +kernel)) rfl)⟩
theorem lP_X8_138 : jv_Fp RX8 138 8 12 .int := ⟨RX8, TX8, 44, tyX8, rfl, by decide, inW_X8, (jv_w (jv_tb 927 (by decide +kernel)) rfl), tyX8_ok, nmX8, rfl, by decide +kernel⟩
theorem lF_X8_141 : jv_F RX8 141 8 14 := ⟨RX8, TX8, 44, rfl, by decide, inW_X8, (jv_w (jv_tb 929 (by decide +kernel)) rfl)⟩
theorem lP_X8_141 : jv_Fp RX8 141 8 14 .int := ⟨RX8, TX8, 44, tyX8, rfl, by decide, inW_X8, (jv_w (jv_tb 929 (by decide +kernel)) rfl), tyX8_ok, nmX8, rfl, by decide +kernel⟩
theorem lF_X8_147 : jv_F RX8 147 8 21 := ⟨RX8, TX8, 44, rfl, by decide, inW_X8, (jv_w (jv_tb 936 (by decide +kernel)) rfl)⟩
theorem lP_X8_147 : jv_Fp RX8 147 8 21 .int := ⟨RX8, TX8, 44, tyX8, rfl, by decide, inW_X8, (jv_w (jv_tb 936 (by decide +kernel)) rfl), tyX8_ok, nmX8, rfl, by decide +kernel⟩
theorem lF_X8_150 : jv_F RX8 150 8 22 := ⟨RX8, TX8, 44, rfl, by decide, inW_X8, (jv_w (jv_tb 937 (by decide +kernel)) rfl)⟩
theorem lP_X8_150 : jv_Fp RX8 150 8 22 .int := ⟨RX8, TX8, 44, tyX8, rfl, by decide, inW_X8, (jv_w (jv_tb 937 (by decide +kernel)) rfl), tyX8_ok, nmX8, rfl, by decide +kernel⟩
theorem lF_X8_160 : jv_F RX8 160 8 10 := ⟨RX8, TX8, 44, rfl, by decide, inW_X8, (jv_w (jv_tb 925 (by decide +kernel)) rfl)⟩
theorem lP_X8_160 : jv_Fp RX8 160 8 10 .int := ⟨RX8, TX8, 44, tyX8, rfl, by decide, inW_X8, (jv_w (jv_tb 925 (by decide +kernel)) rfl), tyX8_ok, nmX8, rfl, by decide +kernel⟩
theorem lF_X8_163 : jv_F RX8 163 8 11 := ⟨RX8, TX8, 44, rfl, by decide, inW_X8, (jv_w (jv_tb 926 (by decide +kernel)) rfl)⟩
theorem lP_X8_163 : jv_Fp RX8 163 8 11 .int := ⟨RX8, TX8, 44, tyX8, rfl, by decide, inW_X8, (jv_w (jv_tb 926 (by decide +kernel)) rfl), tyX8_ok, nmX8, rfl, by decide +kernel⟩
theorem lF_X8_171 : jv_F RX8 171 8 33 := ⟨RX8, TX8, 44, rfl, by decide, inW_X8, (jv_w (jv_tb 948 (by decide +kernel)) rfl)⟩
theorem lP_X8_171 : jv_Fp RX8 171 8 33 .int := ⟨RX8, TX8, 44, tyX8, rfl, by decide, inW_X8, (jv_w (jv_tb 948 (by decide +kernel)) rfl), tyX8_ok, nmX8, rfl, by decide +kernel⟩
theorem lF_X8_177 : jv_F RX8 177 8 24 := ⟨RX8, TX8, 44, rfl, by decide, inW_X8, (jv_w (jv_tb 939 (by decide +kernel)) rfl)⟩
theorem lP_X8_177 : jv_Fp RX8 177 8 24 .int := ⟨RX8, TX8, 44, tyX8, rfl, by decide, inW_X8, (jv_w (jv_tb 939 (by decide +kernel)) rfl), tyX8_ok, nmX8, rfl, by decide +kernel⟩
theorem lF_X8_180 : jv_F RX8 180 8 25 := ⟨RX8, TX8, 44, rfl, by decide, inW_X8, (jv_w (jv_tb 940 (by decide +kernel)) rfl)⟩
theorem lP_X8_180 : jv_Fp RX8 180 8 25 .int := ⟨RX8, TX8, 44, tyX8, rfl, by decide, inW_X8, (jv_w (jv_tb 940 (by decide +kernel)) rfl), tyX8_ok, nmX8, rfl, by decide +kernel⟩
theorem lF_X8_183 : jv_F RX8 183 8 26 := ⟨RX8, TX8, 44, rfl, by decide, inW_X8, (jv_w (jv_tb 941 (by decide +kernel)) rfl)⟩
theorem lP_X8_183 : jv_Fp RX8 183 8 26 .int := ⟨RX8, TX8, 44, tyX8, rfl, by decide, inW_X8, (jv_w (jv_tb 941 (by decide +kernel)) rfl), tyX8_ok, nmX8, rfl, by decide +kernel⟩
theorem lF_X8_186 : jv_F RX8 186 8 27 := ⟨RX8, TX8, 44, rfl, by decide, inW_X8, (jv_w (jv_tb 942 (by decide +kernel)) rfl)⟩
theorem lP_X8_186 : jv_Fp RX8 186 8 27 .int := ⟨RX8, TX8, 44, tyX8, rfl, by decide, inW_X8, (jv_w (jv_tb 942 (by decide +kernel)) rfl), tyX8_ok, nmX8, rfl, by decide +kernel⟩
theorem lF_X8_203 : jv_F RX8 203 8 38 := ⟨RX8, TX8, 44, rfl, by decide, inW_X8, (jv_w (jv_tb 953 (by decide +kernel)) rfl)⟩
theorem lP_X8_203 : jv_Fp RX8 203 8 38 .int := ⟨RX8, TX8, 44, tyX8, rfl, by decide, inW_X8, (jv_w (jv_tb 953 (by decide +kernel)) rfl), tyX8_ok, nmX8, rfl, by decide +kernel⟩
theorem lF_X8_227 : jv_F RX8 227 8 43 := ⟨RX8, TX8, 44, rfl, by decide, inW_X8, (jv_w (jv_tb 958 (by decide +kernel)) rfl)⟩
theorem lP_X8_227 : jv_Fp RX8 227 8 43 .int := ⟨RX8, TX8, 44, tyX8, rfl, by decide, inW_X8, (jv_w (jv_tb 958 (by decide +kernel)) rfl), tyX8_ok, nmX8, rfl, by decide +kernel⟩
def M_X7_nodes : jv_M := (yX7_nodes, cX7_nodes, 1, some .int)
theorem mc_X7_nodes : jv_MC M_X7_nodes 0 := ⟨jv_w (jv_tb 253 (by decide +kernel)) rfl, jv_w (jv_tb 1 (by decide +kernel)) rfl, by decide +kernel, by decide⟩
def M_X3_nodeTotal : jv_M := (yX3_nodeTotal, cX3_nodeTotal, 1, some .int)
theorem mc_X3_nodeTotal : jv_MC M_X3_nodeTotal 0 := ⟨jv_w (jv_tb 257 (by decide +kernel)) rfl, jv_w (jv_tb 2 (by decide +kernel)) rfl, by decide +kernel, by decide⟩
def M_X7_edges : jv_M := (yX7_edges, cX7_edges, 1, some .int)
theorem mc_X7_edges : jv_MC M_X7_edges 0 := ⟨jv_w (jv_tb 261 (by decide +kernel)) rfl, jv_w (jv_tb 1 (by decide +kernel)) rfl, by decide +kernel, by decide⟩
def M_X3_edgeTotal : jv_M := (yX3_edgeTotal, cX3_edgeTotal, 1, some .int)
theorem mc_X3_edgeTotal : jv_MC M_X3_edgeTotal 0 := ⟨jv_w (jv_tb 265 (by decide +kernel)) rfl, jv_w (jv_tb 2 (by decide +kernel)) rfl, by decide +kernel, by decide⟩
def M_X7_usableEdges : jv_M := (yX7_usableEdges, cX7_usableEdges, 1, some .int)
theorem mc_X7_usableEdges : jv_MC M_X7_usableEdges 0 := ⟨jv_w (jv_tb 269 (by decide +kernel)) rfl, jv_w (jv_tb 1 (by decide +kernel)) rfl, by decide +kernel, by decide⟩
def M_X3_usableTotal : jv_M := (yX3_usableTotal, cX3_usableTotal, 1, some .int)
theorem mc_X3_usableTotal : jv_MC M_X3_usableTotal 0 := ⟨jv_w (jv_tb 273 (by decide +kernel)) rfl, jv_w (jv_tb 2 (by decide +kernel)) rfl, by decide +kernel, by decide⟩
def M_X7_at : jv_M := (yX7_at, cX7_at, 2, some .int)
theorem mc_X7_at : jv_MC M_X7_at 2 := ⟨jv_w (jv_tb 276 (by decide +kernel)) rfl, jv_w (jv_tb 1 (by decide +kernel)) rfl, by decide +kernel, by decide⟩
def M_X7_begin : jv_M := (yX7_begin, cX7_begin, 2, none)
theorem mc_X7_begin : jv_MC M_X7_begin 1 := ⟨jv_w (jv_tb 284 (by decide +kernel)) rfl, jv_w (jv_tb 1 (by decide +kernel)) rfl, by decide +kernel, by decide⟩
def M_X7_requireRange : jv_M := (yX7_requireRange, cX7_requireRange, 3, none)
theorem mc_X7_requireRange : jv_MC M_X7_requireRange 3 := ⟨jv_w (jv_tb 287 (by decide +kernel)) rfl, jv_w (jv_tb 1 (by decide +kernel)) rfl, by decide +kernel, by decide⟩
def M_X3_clear : jv_M := (yX3_clear, cX3_clear, 2, none)
theorem mc_X3_clear : jv_MC M_X3_clear 1 := ⟨jv_w (jv_tb 359 (by decide +kernel)) rfl, jv_w (jv_tb 2 (by decide +kernel)) rfl, by decide +kernel, by decide⟩
def M_J7_fill_53178 : jv_M := (yJ7_fill_53178, cJ7_fill_53178, 4, none)
theorem mc_J7_fill_53178 : jv_MC M_J7_fill_53178 2 := ⟨jv_w (jv_tb 362 (by decide +kernel)) rfl, jv_w (jv_tb 14 (by decide +kernel)) rfl, by decide +kernel, by decide⟩
def M_X3_listOutEdges : jv_M := (yX3_listOutEdges, cX3_listOutEdges, 4, none)
theorem mc_X3_listOutEdges : jv_MC M_X3_listOutEdges 0 := ⟨jv_w (jv_tb 366 (by decide +kernel)) rfl, jv_w (jv_tb 2 (by decide +kernel)) rfl, by decide +kernel, by decide⟩
def M_X7_put : jv_M := (yX7_put, cX7_put, 3, none)
theorem mc_X7_put : jv_MC M_X7_put 3 := ⟨jv_w (jv_tb 369 (by decide +kernel)) rfl, jv_w (jv_tb 1 (by decide +kernel)) rfl, by decide +kernel, by decide⟩
def M_X3_tailOf : jv_M := (yX3_tailOf, cX3_tailOf, 2, some .int)
theorem mc_X3_tailOf : jv_MC M_X3_tailOf 1 := ⟨jv_w (jv_tb 373 (by decide +kernel)) rfl, jv_w (jv_tb 2 (by decide +kernel)) rfl, by decide +kernel, by decide⟩
def M_X3_isUsable : jv_M := (yX3_isUsable, cX3_isUsable, 3, some .boolean)
theorem mc_X3_isUsable : jv_MC M_X3_isUsable 1 := ⟨jv_w (jv_tb 377 (by decide +kernel)) rfl, jv_w (jv_tb 2 (by decide +kernel)) rfl, by decide +kernel, by decide⟩
def M_X7_hasBit : jv_M := (yX7_hasBit, cX7_hasBit, 2, some .boolean)
theorem mc_X7_hasBit : jv_MC M_X7_hasBit 2 := ⟨jv_w (jv_tb 380 (by decide +kernel)) rfl, jv_w (jv_tb 1 (by decide +kernel)) rfl, by decide +kernel, by decide⟩
def M_X3_headOf : jv_M := (yX3_headOf, cX3_headOf, 2, some .int)
theorem mc_X3_headOf : jv_MC M_X3_headOf 1 := ⟨jv_w (jv_tb 384 (by decide +kernel)) rfl, jv_w (jv_tb 2 (by decide +kernel)) rfl, by decide +kernel, by decide⟩
def M_X7_endDraws : jv_M := (yX7_endDraws, cX7_endDraws, 1, none)
theorem mc_X7_endDraws : jv_MC M_X7_endDraws 0 := ⟨jv_w (jv_tb 388 (by decide +kernel)) rfl, jv_w (jv_tb 1 (by decide +kernel)) rfl, by decide +kernel, by decide⟩
def M_X7_addEdge : jv_M := (yX7_addEdge, cX7_addEdge, 4, some .int)
theorem mc_X7_addEdge : jv_MC M_X7_addEdge 3 := ⟨jv_w (jv_tb 396 (by decide +kernel)) rfl, jv_w (jv_tb 1 (by decide +kernel)) rfl, by decide +kernel, by decide⟩
def M_X7_requireTwoNodes : jv_M := (yX7_requireTwoNodes, cX7_requireTwoNodes, 3, none)
theorem mc_X7_requireTwoNodes : jv_MC M_X7_requireTwoNodes 2 := ⟨jv_w (jv_tb 400 (by decide +kernel)) rfl, jv_w (jv_tb 1 (by decide +kernel)) rfl, by decide +kernel, by decide⟩
def M_X7_requireNodes : jv_M := (yX7_requireNodes, cX7_requireNodes, 3, none)
theorem mc_X7_requireNodes : jv_MC M_X7_requireNodes 2 := ⟨jv_w (jv_tb 404 (by decide +kernel)) rfl, jv_w (jv_tb 1 (by decide +kernel)) rfl, by decide +kernel, by decide⟩
def M_X3_hasNode : jv_M := (yX3_hasNode, cX3_hasNode, 2, some .boolean)
theorem mc_X3_hasNode : jv_MC M_X3_hasNode 1 := ⟨jv_w (jv_tb 408 (by decide +kernel)) rfl, jv_w (jv_tb 2 (by decide +kernel)) rfl, by decide +kernel, by decide⟩
def M_X3_hasRoom : jv_M := (yX3_hasRoom, cX3_hasRoom, 1, some .boolean)
theorem mc_X3_hasRoom : jv_MC M_X3_hasRoom 0 := ⟨jv_w (jv_tb 414 (by decide +kernel)) rfl, jv_w (jv_tb 2 (by decide +kernel)) rfl, by decide +kernel, by decide⟩
def M_X3_append : jv_M := (yX3_append, cX3_append, 5, some .int)
theorem mc_X3_append : jv_MC M_X3_append 3 := ⟨jv_w (jv_tb 434 (by decide +kernel)) rfl, jv_w (jv_tb 2 (by decide +kernel)) rfl, by decide +kernel, by decide⟩
def M_X7_setLength : jv_M := (yX7_setLength, cX7_setLength, 3, some .int)
theorem mc_X7_setLength : jv_MC M_X7_setLength 2 := ⟨jv_w (jv_tb 441 (by decide +kernel)) rfl, jv_w (jv_tb 1 (by decide +kernel)) rfl, by decide +kernel, by decide⟩
def M_X7_requireEdge : jv_M := (yX7_requireEdge, cX7_requireEdge, 2, none)
theorem mc_X7_requireEdge : jv_MC M_X7_requireEdge 1 := ⟨jv_w (jv_tb 445 (by decide +kernel)) rfl, jv_w (jv_tb 1 (by decide +kernel)) rfl, by decide +kernel, by decide⟩
def M_X3_hasEdge : jv_M := (yX3_hasEdge, cX3_hasEdge, 2, some .boolean)
theorem mc_X3_hasEdge : jv_MC M_X3_hasEdge 1 := ⟨jv_w (jv_tb 449 (by decide +kernel)) rfl, jv_w (jv_tb 2 (by decide +kernel)) rfl, by decide +kernel, by decide⟩
def M_X3_changeLength : jv_M := (yX3_changeLength, cX3_changeLength, 4, some .int)
theorem mc_X3_changeLength : jv_MC M_X3_changeLength 2 := ⟨jv_w (jv_tb 454 (by decide +kernel)) rfl, jv_w (jv_tb 2 (by decide +kernel)) rfl, by decide +kernel, by decide⟩
def M_X3_lengthOf : jv_M := (yX3_lengthOf, cX3_lengthOf, 2, some .int)
theorem mc_X3_lengthOf : jv_MC M_X3_lengthOf 1 := ⟨jv_w (jv_tb 458 (by decide +kernel)) rfl, jv_w (jv_tb 2 (by decide +kernel)) rfl, by decide +kernel, by decide⟩
def M_X7_toggleEdge : jv_M := (yX7_toggleEdge, cX7_toggleEdge, 2, some .boolean)
theorem mc_X7_toggleEdge : jv_MC M_X7_toggleEdge 1 := ⟨jv_w (jv_tb 465 (by decide +kernel)) rfl, jv_w (jv_tb 1 (by decide +kernel)) rfl, by decide +kernel, by decide⟩
def M_X3_switchEdge : jv_M := (yX3_switchEdge, cX3_switchEdge, 2, some .boolean)
theorem mc_X3_switchEdge : jv_MC M_X3_switchEdge 1 := ⟨jv_w (jv_tb 469 (by decide +kernel)) rfl, jv_w (jv_tb 2 (by decide +kernel)) rfl, by decide +kernel, by decide⟩
def M_X7_toggleNode : jv_M := (yX7_toggleNode, cX7_toggleNode, 2, some .boolean)
theorem mc_X7_toggleNode : jv_MC M_X7_toggleNode 1 := ⟨jv_w (jv_tb 476 (by decide +kernel)) rfl, jv_w (jv_tb 1 (by decide +kernel)) rfl, by decide +kernel, by decide⟩
def M_X3_switchNode : jv_M := (yX3_switchNode, cX3_switchNode, 2, some .boolean)
theorem mc_X3_switchNode : jv_MC M_X3_switchNode 1 := ⟨jv_w (jv_tb 480 (by decide +kernel)) rfl, jv_w (jv_tb 2 (by decide +kernel)) rfl, by decide +kernel, by decide⟩
def M_X7_toggleTurn : jv_M := (yX7_toggleTurn, cX7_toggleTurn, 3, some .boolean)
theorem mc_X7_toggleTurn : jv_MC M_X7_toggleTurn 2 := ⟨jv_w (jv_tb 487 (by decide +kernel)) rfl, jv_w (jv_tb 1 (by decide +kernel)) rfl, by decide +kernel, by decide⟩
def M_X3_switchTurn : jv_M := (yX3_switchTurn, cX3_switchTurn, 3, some .boolean)
theorem mc_X3_switchTurn : jv_MC M_X3_switchTurn 2 := ⟨jv_w (jv_tb 494 (by decide +kernel)) rfl, jv_w (jv_tb 2 (by decide +kernel)) rfl, by decide +kernel, by decide⟩
def M_X3_isForbidden : jv_M := (yX3_isForbidden, cX3_isForbidden, 3, some .boolean)
theorem mc_X3_isForbidden : jv_MC M_X3_isForbidden 2 := ⟨jv_w (jv_tb 498 (by decide +kernel)) rfl, jv_w (jv_tb 2 (by decide +kernel)) rfl, by decide +kernel, by decide⟩
def M_X7_distance : jv_M := (yX7_distance, cX7_distance, 3, some .int)
theorem mc_X7_distance : jv_MC M_X7_distance 2 := ⟨jv_w (jv_tb 506 (by decide +kernel)) rfl, jv_w (jv_tb 1 (by decide +kernel)) rfl, by decide +kernel, by decide⟩
def M_X2_measureTo : jv_M := (yX2_measureTo, cX2_measureTo, 4, none)
theorem mc_X2_measureTo : jv_MC M_X2_measureTo 1 := ⟨jv_w (jv_tb 510 (by decide +kernel)) rfl, jv_w (jv_tb 3 (by decide +kernel)) rfl, by decide +kernel, by decide⟩
def M_X2_shortenAll : jv_M := (yX2_shortenAll, cX2_shortenAll, 5, some .boolean)
theorem mc_X2_shortenAll : jv_MC M_X2_shortenAll 0 := ⟨jv_w (jv_tb 517 (by decide +kernel)) rfl, jv_w (jv_tb 3 (by decide +kernel)) rfl, by decide +kernel, by decide⟩
def M_X3_outEdge : jv_M := (yX3_outEdge, cX3_outEdge, 2, some .int)
theorem mc_X3_outEdge : jv_MC M_X3_outEdge 1 := ⟨jv_w (jv_tb 522 (by decide +kernel)) rfl, jv_w (jv_tb 2 (by decide +kernel)) rfl, by decide +kernel, by decide⟩
def M_X2_ofNode : jv_M := (yX2_ofNode, cX2_ofNode, 2, some .int)
theorem mc_X2_ofNode : jv_MC M_X2_ofNode 1 := ⟨jv_w (jv_tb 528 (by decide +kernel)) rfl, jv_w (jv_tb 3 (by decide +kernel)) rfl, by decide +kernel, by decide⟩
def M_X7_requireWay : jv_M := (yX7_requireWay, cX7_requireWay, 1, some .int)
theorem mc_X7_requireWay : jv_MC M_X7_requireWay 1 := ⟨jv_w (jv_tb 534 (by decide +kernel)) rfl, jv_w (jv_tb 1 (by decide +kernel)) rfl, by decide +kernel, by decide⟩
def M_X7_startPaths : jv_M := (yX7_startPaths, cX7_startPaths, 3, none)
theorem mc_X7_startPaths : jv_MC M_X7_startPaths 2 := ⟨jv_w (jv_tb 558 (by decide +kernel)) rfl, jv_w (jv_tb 1 (by decide +kernel)) rfl, by decide +kernel, by decide⟩
def M_X5_restart : jv_M := (yX5_restart, cX5_restart, 3, none)
theorem mc_X5_restart : jv_MC M_X5_restart 2 := ⟨jv_w (jv_tb 562 (by decide +kernel)) rfl, jv_w (jv_tb 4 (by decide +kernel)) rfl, by decide +kernel, by decide⟩
def M_X7_nextPath : jv_M := (yX7_nextPath, cX7_nextPath, 1, some .int)
theorem mc_X7_nextPath : jv_MC M_X7_nextPath 0 := ⟨jv_w (jv_tb 569 (by decide +kernel)) rfl, jv_w (jv_tb 1 (by decide +kernel)) rfl, by decide +kernel, by decide⟩
def M_X7_requireStarted : jv_M := (yX7_requireStarted, cX7_requireStarted, 1, none)
theorem mc_X7_requireStarted : jv_MC M_X7_requireStarted 1 := ⟨jv_w (jv_tb 572 (by decide +kernel)) rfl, jv_w (jv_tb 1 (by decide +kernel)) rfl, by decide +kernel, by decide⟩
def M_X5_advance : jv_M := (yX5_advance, cX5_advance, 1, some .boolean)
theorem mc_X5_advance : jv_MC M_X5_advance 0 := ⟨jv_w (jv_tb 577 (by decide +kernel)) rfl, jv_w (jv_tb 4 (by decide +kernel)) rfl, by decide +kernel, by decide⟩
def M_X5_turnPage : jv_M := (yX5_turnPage, cX5_turnPage, 1, none)
theorem mc_X5_turnPage : jv_MC M_X5_turnPage 0 := ⟨jv_w (jv_tb 581 (by decide +kernel)) rfl, jv_w (jv_tb 4 (by decide +kernel)) rfl, by decide +kernel, by decide⟩
def M_X5_explore : jv_M := (yX5_explore, cX5_explore, 12, none)
theorem mc_X5_explore : jv_MC M_X5_explore 5 := ⟨jv_w (jv_tb 585 (by decide +kernel)) rfl, jv_w (jv_tb 4 (by decide +kernel)) rfl, by decide +kernel, by decide⟩
def M_X3_outStart : jv_M := (yX3_outStart, cX3_outStart, 2, some .int)
theorem mc_X3_outStart : jv_MC M_X3_outStart 1 := ⟨jv_w (jv_tb 589 (by decide +kernel)) rfl, jv_w (jv_tb 2 (by decide +kernel)) rfl, by decide +kernel, by decide⟩
def M_X3_outEnd : jv_M := (yX3_outEnd, cX3_outEnd, 2, some .int)
theorem mc_X3_outEnd : jv_MC M_X3_outEnd 1 := ⟨jv_w (jv_tb 593 (by decide +kernel)) rfl, jv_w (jv_tb 2 (by decide +kernel)) rfl, by decide +kernel, by decide⟩
def M_X5_ofLength : jv_M := (yX5_ofLength, cX5_ofLength, 1, some .long)
theorem mc_X5_ofLength : jv_MC M_X5_ofLength 1 := ⟨jv_w (jv_tb 599 (by decide +kernel)) rfl, jv_w (jv_tb 4 (by decide +kernel)) rfl, by decide +kernel, by decide⟩
def M_X5_slotShift : jv_M := (yX5_slotShift, cX5_slotShift, 1, some .int)
theorem mc_X5_slotShift : jv_MC M_X5_slotShift 1 := ⟨jv_w (jv_tb 602 (by decide +kernel)) rfl, jv_w (jv_tb 4 (by decide +kernel)) rfl, by decide +kernel, by decide⟩
def M_X5_keep : jv_M := (yX5_keep, cX5_keep, 4, none)
theorem mc_X5_keep : jv_MC M_X5_keep 1 := ⟨jv_w (jv_tb 606 (by decide +kernel)) rfl, jv_w (jv_tb 4 (by decide +kernel)) rfl, by decide +kernel, by decide⟩
def M_X5_fits : jv_M := (yX5_fits, cX5_fits, 3, some .boolean)
theorem mc_X5_fits : jv_MC M_X5_fits 1 := ⟨jv_w (jv_tb 610 (by decide +kernel)) rfl, jv_w (jv_tb 4 (by decide +kernel)) rfl, by decide +kernel, by decide⟩
def M_X7_at_ : jv_M := (yX7_at_, cX7_at_, 2, some .long)
theorem mc_X7_at_ : jv_MC M_X7_at_ 2 := ⟨jv_w (jv_tb 613 (by decide +kernel)) rfl, jv_w (jv_tb 1 (by decide +kernel)) rfl, by decide +kernel, by decide⟩
def M_J9_min_7cf53 : jv_M := (yJ9_min_7cf53, cJ9_min_7cf53, 2, some .int)
theorem mc_J9_min_7cf53 : jv_MC M_J9_min_7cf53 2 := ⟨jv_w (jv_tb 616 (by decide +kernel)) rfl, jv_w (jv_tb 17 (by decide +kernel)) rfl, by decide +kernel, by decide⟩
def M_X7_put_ : jv_M := (yX7_put_, cX7_put_, 4, none)
theorem mc_X7_put_ : jv_MC M_X7_put_ 3 := ⟨jv_w (jv_tb 619 (by decide +kernel)) rfl, jv_w (jv_tb 1 (by decide +kernel)) rfl, by decide +kernel, by decide⟩
def M_X5_leadsOn : jv_M := (yX5_leadsOn, cX5_leadsOn, 5, some .boolean)
theorem mc_X5_leadsOn : jv_MC M_X5_leadsOn 2 := ⟨jv_w (jv_tb 624 (by decide +kernel)) rfl, jv_w (jv_tb 4 (by decide +kernel)) rfl, by decide +kernel, by decide⟩
def M_X5_currentLength : jv_M := (yX5_currentLength, cX5_currentLength, 1, some .int)
theorem mc_X5_currentLength : jv_MC M_X5_currentLength 0 := ⟨jv_w (jv_tb 631 (by decide +kernel)) rfl, jv_w (jv_tb 4 (by decide +kernel)) rfl, by decide +kernel, by decide⟩
def M_X7_pathsDrawn : jv_M := (yX7_pathsDrawn, cX7_pathsDrawn, 1, some .int)
theorem mc_X7_pathsDrawn : jv_MC M_X7_pathsDrawn 0 := ⟨jv_w (jv_tb 638 (by decide +kernel)) rfl, jv_w (jv_tb 1 (by decide +kernel)) rfl, by decide +kernel, by decide⟩
def M_X5_drawnTotal : jv_M := (yX5_drawnTotal, cX5_drawnTotal, 1, some .int)
theorem mc_X5_drawnTotal : jv_MC M_X5_drawnTotal 0 := ⟨jv_w (jv_tb 642 (by decide +kernel)) rfl, jv_w (jv_tb 4 (by decide +kernel)) rfl, by decide +kernel, by decide⟩
def M_X7_pathEdges : jv_M := (yX7_pathEdges, cX7_pathEdges, 1, some .int)
theorem mc_X7_pathEdges : jv_MC M_X7_pathEdges 0 := ⟨jv_w (jv_tb 649 (by decide +kernel)) rfl, jv_w (jv_tb 1 (by decide +kernel)) rfl, by decide +kernel, by decide⟩
def M_X7_requireDrawn : jv_M := (yX7_requireDrawn, cX7_requireDrawn, 1, none)
theorem mc_X7_requireDrawn : jv_MC M_X7_requireDrawn 1 := ⟨jv_w (jv_tb 652 (by decide +kernel)) rfl, jv_w (jv_tb 1 (by decide +kernel)) rfl, by decide +kernel, by decide⟩
def M_X5_currentSize : jv_M := (yX5_currentSize, cX5_currentSize, 2, some .int)
theorem mc_X5_currentSize : jv_MC M_X5_currentSize 0 := ⟨jv_w (jv_tb 657 (by decide +kernel)) rfl, jv_w (jv_tb 4 (by decide +kernel)) rfl, by decide +kernel, by decide⟩
def M_X5_currentEdge : jv_M := (yX5_currentEdge, cX5_currentEdge, 2, some .int)
theorem mc_X5_currentEdge : jv_MC M_X5_currentEdge 1 := ⟨jv_w (jv_tb 661 (by decide +kernel)) rfl, jv_w (jv_tb 4 (by decide +kernel)) rfl, by decide +kernel, by decide⟩
def M_X7_pathEdge : jv_M := (yX7_pathEdge, cX7_pathEdge, 2, some .int)
theorem mc_X7_pathEdge : jv_MC M_X7_pathEdge 1 := ⟨jv_w (jv_tb 669 (by decide +kernel)) rfl, jv_w (jv_tb 1 (by decide +kernel)) rfl, by decide +kernel, by decide⟩
def M_X7_requireListed : jv_M := (yX7_requireListed, cX7_requireListed, 1, some .int)
theorem mc_X7_requireListed : jv_MC M_X7_requireListed 1 := ⟨jv_w (jv_tb 673 (by decide +kernel)) rfl, jv_w (jv_tb 1 (by decide +kernel)) rfl, by decide +kernel, by decide⟩
def M_X7_countPaths : jv_M := (yX7_countPaths, cX7_countPaths, 4, some .int)
theorem mc_X7_countPaths : jv_MC M_X7_countPaths 3 := ⟨jv_w (jv_tb 681 (by decide +kernel)) rfl, jv_w (jv_tb 1 (by decide +kernel)) rfl, by decide +kernel, by decide⟩
def M_X4_upTo : jv_M := (yX4_upTo, cX4_upTo, 4, some .int)
theorem mc_X4_upTo : jv_MC M_X4_upTo 3 := ⟨jv_w (jv_tb 686 (by decide +kernel)) rfl, jv_w (jv_tb 5 (by decide +kernel)) rfl, by decide +kernel, by decide⟩
def M_X4_countFrom : jv_M := (yX4_countFrom, cX4_countFrom, 11, some .int)
theorem mc_X4_countFrom : jv_MC M_X4_countFrom 5 := ⟨jv_w (jv_tb 690 (by decide +kernel)) rfl, jv_w (jv_tb 5 (by decide +kernel)) rfl, by decide +kernel, by decide⟩
def M_X7_startWalks : jv_M := (yX7_startWalks, cX7_startWalks, 3, none)
theorem mc_X7_startWalks : jv_MC M_X7_startWalks 2 := ⟨jv_w (jv_tb 704 (by decide +kernel)) rfl, jv_w (jv_tb 1 (by decide +kernel)) rfl, by decide +kernel, by decide⟩
def M_X6_restart : jv_M := (yX6_restart, cX6_restart, 3, none)
theorem mc_X6_restart : jv_MC M_X6_restart 2 := ⟨jv_w (jv_tb 708 (by decide +kernel)) rfl, jv_w (jv_tb 6 (by decide +kernel)) rfl, by decide +kernel, by decide⟩
def M_X6_list : jv_M := (yX6_list, cX6_list, 7, none)
theorem mc_X6_list : jv_MC M_X6_list 5 := ⟨jv_w (jv_tb 713 (by decide +kernel)) rfl, jv_w (jv_tb 6 (by decide +kernel)) rfl, by decide +kernel, by decide⟩
def M_X6_entry : jv_M := (yX6_entry, cX6_entry, 2, some .int)
theorem mc_X6_entry : jv_MC M_X6_entry 2 := ⟨jv_w (jv_tb 717 (by decide +kernel)) rfl, jv_w (jv_tb 6 (by decide +kernel)) rfl, by decide +kernel, by decide⟩
def M_X7_nextWalk : jv_M := (yX7_nextWalk, cX7_nextWalk, 1, some .int)
theorem mc_X7_nextWalk : jv_MC M_X7_nextWalk 0 := ⟨jv_w (jv_tb 725 (by decide +kernel)) rfl, jv_w (jv_tb 1 (by decide +kernel)) rfl, by decide +kernel, by decide⟩
def M_X6_drawnTotal : jv_M := (yX6_drawnTotal, cX6_drawnTotal, 1, some .int)
theorem mc_X6_drawnTotal : jv_MC M_X6_drawnTotal 0 := ⟨jv_w (jv_tb 729 (by decide +kernel)) rfl, jv_w (jv_tb 6 (by decide +kernel)) rfl, by decide +kernel, by decide⟩
def M_X6_advance : jv_M := (yX6_advance, cX6_advance, 3, some .boolean)
theorem mc_X6_advance : jv_MC M_X6_advance 0 := ⟨jv_w (jv_tb 734 (by decide +kernel)) rfl, jv_w (jv_tb 6 (by decide +kernel)) rfl, by decide +kernel, by decide⟩
def M_X6_shortestEdge : jv_M := (yX6_shortestEdge, cX6_shortestEdge, 7, some .int)
theorem mc_X6_shortestEdge : jv_MC M_X6_shortestEdge 0 := ⟨jv_w (jv_tb 738 (by decide +kernel)) rfl, jv_w (jv_tb 6 (by decide +kernel)) rfl, by decide +kernel, by decide⟩
def M_X6_putAhead : jv_M := (yX6_putAhead, cX6_putAhead, 4, none)
theorem mc_X6_putAhead : jv_MC M_X6_putAhead 1 := ⟨jv_w (jv_tb 748 (by decide +kernel)) rfl, jv_w (jv_tb 6 (by decide +kernel)) rfl, by decide +kernel, by decide⟩
def M_X6_currentLength : jv_M := (yX6_currentLength, cX6_currentLength, 1, some .int)
theorem mc_X6_currentLength : jv_MC M_X6_currentLength 0 := ⟨jv_w (jv_tb 753 (by decide +kernel)) rfl, jv_w (jv_tb 6 (by decide +kernel)) rfl, by decide +kernel, by decide⟩
def M_X6_currentEntry : jv_M := (yX6_currentEntry, cX6_currentEntry, 1, some .int)
theorem mc_X6_currentEntry : jv_MC M_X6_currentEntry 0 := ⟨jv_w (jv_tb 757 (by decide +kernel)) rfl, jv_w (jv_tb 6 (by decide +kernel)) rfl, by decide +kernel, by decide⟩
def M_X7_walksDrawn : jv_M := (yX7_walksDrawn, cX7_walksDrawn, 1, some .int)
theorem mc_X7_walksDrawn : jv_MC M_X7_walksDrawn 0 := ⟨jv_w (jv_tb 764 (by decide +kernel)) rfl, jv_w (jv_tb 1 (by decide +kernel)) rfl, by decide +kernel, by decide⟩
def M_X7_walkEdges : jv_M := (yX7_walkEdges, cX7_walkEdges, 1, some .int)
theorem mc_X7_walkEdges : jv_MC M_X7_walkEdges 0 := ⟨jv_w (jv_tb 771 (by decide +kernel)) rfl, jv_w (jv_tb 1 (by decide +kernel)) rfl, by decide +kernel, by decide⟩
def M_X6_currentSize : jv_M := (yX6_currentSize, cX6_currentSize, 1, some .int)
theorem mc_X6_currentSize : jv_MC M_X6_currentSize 0 := ⟨jv_w (jv_tb 775 (by decide +kernel)) rfl, jv_w (jv_tb 6 (by decide +kernel)) rfl, by decide +kernel, by decide⟩
def M_X7_walkEdge : jv_M := (yX7_walkEdge, cX7_walkEdge, 2, some .int)
theorem mc_X7_walkEdge : jv_MC M_X7_walkEdge 1 := ⟨jv_w (jv_tb 782 (by decide +kernel)) rfl, jv_w (jv_tb 1 (by decide +kernel)) rfl, by decide +kernel, by decide⟩
def M_X6_currentEdge : jv_M := (yX6_currentEdge, cX6_currentEdge, 4, some .int)
theorem mc_X6_currentEdge : jv_MC M_X6_currentEdge 1 := ⟨jv_w (jv_tb 786 (by decide +kernel)) rfl, jv_w (jv_tb 6 (by decide +kernel)) rfl, by decide +kernel, by decide⟩
def M_X7_disjointPaths : jv_M := (yX7_disjointPaths, cX7_disjointPaths, 4, some .int)
theorem mc_X7_disjointPaths : jv_MC M_X7_disjointPaths 3 := ⟨jv_w (jv_tb 794 (by decide +kernel)) rfl, jv_w (jv_tb 1 (by decide +kernel)) rfl, by decide +kernel, by decide⟩
def M_X1_pathTotal : jv_M := (yX1_pathTotal, cX1_pathTotal, 5, some .int)
theorem mc_X1_pathTotal : jv_MC M_X1_pathTotal 3 := ⟨jv_w (jv_tb 798 (by decide +kernel)) rfl, jv_w (jv_tb 7 (by decide +kernel)) rfl, by decide +kernel, by decide⟩
def M_X1_layArcs : jv_M := (yX1_layArcs, cX1_layArcs, 6, none)
theorem mc_X1_layArcs : jv_MC M_X1_layArcs 3 := ⟨jv_w (jv_tb 802 (by decide +kernel)) rfl, jv_w (jv_tb 7 (by decide +kernel)) rfl, by decide +kernel, by decide⟩
def M_X1_pointBehind : jv_M := (yX1_pointBehind, cX1_pointBehind, 1, some .int)
theorem mc_X1_pointBehind : jv_MC M_X1_pointBehind 1 := ⟨jv_w (jv_tb 805 (by decide +kernel)) rfl, jv_w (jv_tb 7 (by decide +kernel)) rfl, by decide +kernel, by decide⟩
def M_X1_pointBefore : jv_M := (yX1_pointBefore, cX1_pointBefore, 1, some .int)
theorem mc_X1_pointBefore : jv_MC M_X1_pointBefore 1 := ⟨jv_w (jv_tb 808 (by decide +kernel)) rfl, jv_w (jv_tb 7 (by decide +kernel)) rfl, by decide +kernel, by decide⟩
def M_X1_layArc : jv_M := (yX1_layArc, cX1_layArc, 5, none)
theorem mc_X1_layArc : jv_MC M_X1_layArc 4 := ⟨jv_w (jv_tb 817 (by decide +kernel)) rfl, jv_w (jv_tb 7 (by decide +kernel)) rfl, by decide +kernel, by decide⟩
def M_X1_addPath : jv_M := (yX1_addPath, cX1_addPath, 3, some .int)
theorem mc_X1_addPath : jv_MC M_X1_addPath 0 := ⟨jv_w (jv_tb 823 (by decide +kernel)) rfl, jv_w (jv_tb 7 (by decide +kernel)) rfl, by decide +kernel, by decide⟩
def M_X1_cheapenAll : jv_M := (yX1_cheapenAll, cX1_cheapenAll, 5, some .boolean)
theorem mc_X1_cheapenAll : jv_MC M_X1_cheapenAll 0 := ⟨jv_w (jv_tb 828 (by decide +kernel)) rfl, jv_w (jv_tb 7 (by decide +kernel)) rfl, by decide +kernel, by decide⟩
def M_X1_reach : jv_M := (yX1_reach, cX1_reach, 6, some .boolean)
theorem mc_X1_reach : jv_MC M_X1_reach 4 := ⟨jv_w (jv_tb 833 (by decide +kernel)) rfl, jv_w (jv_tb 7 (by decide +kernel)) rfl, by decide +kernel, by decide⟩
def M_X1_send : jv_M := (yX1_send, cX1_send, 5, none)
theorem mc_X1_send : jv_MC M_X1_send 0 := ⟨jv_w (jv_tb 837 (by decide +kernel)) rfl, jv_w (jv_tb 7 (by decide +kernel)) rfl, by decide +kernel, by decide⟩
def M_X7_disjointLength : jv_M := (yX7_disjointLength, cX7_disjointLength, 5, some .int)
theorem mc_X7_disjointLength : jv_MC M_X7_disjointLength 4 := ⟨jv_w (jv_tb 844 (by decide +kernel)) rfl, jv_w (jv_tb 1 (by decide +kernel)) rfl, by decide +kernel, by decide⟩
def M_X1_leastLength : jv_M := (yX1_leastLength, cX1_leastLength, 7, some .int)
theorem mc_X1_leastLength : jv_MC M_X1_leastLength 4 := ⟨jv_w (jv_tb 848 (by decide +kernel)) rfl, jv_w (jv_tb 7 (by decide +kernel)) rfl, by decide +kernel, by decide⟩
def M_X7_allowedLength : jv_M := (yX7_allowedLength, cX7_allowedLength, 3, some .int)
theorem mc_X7_allowedLength : jv_MC M_X7_allowedLength 2 := ⟨jv_w (jv_tb 855 (by decide +kernel)) rfl, jv_w (jv_tb 1 (by decide +kernel)) rfl, by decide +kernel, by decide⟩
def M_X0_find : jv_M := (yX0_find, cX0_find, 6, some .int)
theorem mc_X0_find : jv_MC M_X0_find 2 := ⟨jv_w (jv_tb 859 (by decide +kernel)) rfl, jv_w (jv_tb 8 (by decide +kernel)) rfl, by decide +kernel, by decide⟩
def M_X0_measureTo : jv_M := (yX0_measureTo, cX0_measureTo, 4, none)
theorem mc_X0_measureTo : jv_MC M_X0_measureTo 1 := ⟨jv_w (jv_tb 863 (by decide +kernel)) rfl, jv_w (jv_tb 8 (by decide +kernel)) rfl, by decide +kernel, by decide⟩
def M_X0_shortenAll : jv_M := (yX0_shortenAll, cX0_shortenAll, 8, some .boolean)
theorem mc_X0_shortenAll : jv_MC M_X0_shortenAll 1 := ⟨jv_w (jv_tb 869 (by decide +kernel)) rfl, jv_w (jv_tb 8 (by decide +kernel)) rfl, by decide +kernel, by decide⟩
def M_X0_bestAfter : jv_M := (yX0_bestAfter, cX0_bestAfter, 8, some .int)
theorem mc_X0_bestAfter : jv_MC M_X0_bestAfter 2 := ⟨jv_w (jv_tb 876 (by decide +kernel)) rfl, jv_w (jv_tb 8 (by decide +kernel)) rfl, by decide +kernel, by decide⟩
def M_X0_lengthFrom : jv_M := (yX0_lengthFrom, cX0_lengthFrom, 2, some .int)
theorem mc_X0_lengthFrom : jv_MC M_X0_lengthFrom 1 := ⟨jv_w (jv_tb 883 (by decide +kernel)) rfl, jv_w (jv_tb 8 (by decide +kernel)) rfl, by decide +kernel, by decide⟩
def M_X7_allowedEdges : jv_M := (yX7_allowedEdges, cX7_allowedEdges, 3, some .int)
theorem mc_X7_allowedEdges : jv_MC M_X7_allowedEdges 2 := ⟨jv_w (jv_tb 893 (by decide +kernel)) rfl, jv_w (jv_tb 1 (by decide +kernel)) rfl, by decide +kernel, by decide⟩
def M_X0_foundSize : jv_M := (yX0_foundSize, cX0_foundSize, 1, some .int)
theorem mc_X0_foundSize : jv_MC M_X0_foundSize 0 := ⟨jv_w (jv_tb 897 (by decide +kernel)) rfl, jv_w (jv_tb 8 (by decide +kernel)) rfl, by decide +kernel, by decide⟩
def M_X7_allowedEdge : jv_M := (yX7_allowedEdge, cX7_allowedEdge, 4, some .int)
theorem mc_X7_allowedEdge : jv_MC M_X7_allowedEdge 3 := ⟨jv_w (jv_tb 904 (by decide +kernel)) rfl, jv_w (jv_tb 1 (by decide +kernel)) rfl, by decide +kernel, by decide⟩
def M_X0_foundEdge : jv_M := (yX0_foundEdge, cX0_foundEdge, 2, some .int)
theorem mc_X0_foundEdge : jv_MC M_X0_foundEdge 1 := ⟨jv_w (jv_tb 908 (by decide +kernel)) rfl, jv_w (jv_tb 8 (by decide +kernel)) rfl, by decide +kernel, by decide⟩
def M_X8_thrown : jv_M := (yX8_thrown, cX8_thrown, 1, some .int)
theorem mc_X8_thrown : jv_MC M_X8_thrown 0 := ⟨jv_w (jv_tb 1052 (by decide +kernel)) rfl, jv_w (jv_tb 9 (by decide +kernel)) rfl, by decide +kernel, by decide⟩
def M_X8_begin : jv_M := (yX8_begin, cX8_begin, 3, none)
theorem mc_X8_begin : jv_MC M_X8_begin 1 := ⟨jv_w (jv_tb 1056 (by decide +kernel)) rfl, jv_w (jv_tb 9 (by decide +kernel)) rfl, by decide +kernel, by decide⟩
def M_X8_in : jv_M := (yX8_in, cX8_in, 3, some .boolean)
theorem mc_X8_in : jv_MC M_X8_in 3 := ⟨jv_w (jv_tb 1059 (by decide +kernel)) rfl, jv_w (jv_tb 9 (by decide +kernel)) rfl, by decide +kernel, by decide⟩
def M_X8_holds : jv_M := (yX8_holds, cX8_holds, 2, some .boolean)
theorem mc_X8_holds : jv_MC M_X8_holds 1 := ⟨jv_w (jv_tb 1063 (by decide +kernel)) rfl, jv_w (jv_tb 9 (by decide +kernel)) rfl, by decide +kernel, by decide⟩
def M_X8_isChanged : jv_M := (yX8_isChanged, cX8_isChanged, 1, none)
theorem mc_X8_isChanged : jv_MC M_X8_isChanged 0 := ⟨jv_w (jv_tb 1067 (by decide +kernel)) rfl, jv_w (jv_tb 9 (by decide +kernel)) rfl, by decide +kernel, by decide⟩
def M_X8_addEdge : jv_M := (yX8_addEdge, cX8_addEdge, 4, some .int)
theorem mc_X8_addEdge : jv_MC M_X8_addEdge 3 := ⟨jv_w (jv_tb 1071 (by decide +kernel)) rfl, jv_w (jv_tb 9 (by decide +kernel)) rfl, by decide +kernel, by decide⟩
def M_X8_areTwo : jv_M := (yX8_areTwo, cX8_areTwo, 3, some .boolean)
theorem mc_X8_areTwo : jv_MC M_X8_areTwo 2 := ⟨jv_w (jv_tb 1075 (by decide +kernel)) rfl, jv_w (jv_tb 9 (by decide +kernel)) rfl, by decide +kernel, by decide⟩
def M_X8_areNodes : jv_M := (yX8_areNodes, cX8_areNodes, 3, some .boolean)
theorem mc_X8_areNodes : jv_MC M_X8_areNodes 2 := ⟨jv_w (jv_tb 1079 (by decide +kernel)) rfl, jv_w (jv_tb 9 (by decide +kernel)) rfl, by decide +kernel, by decide⟩
def M_X8_isNode : jv_M := (yX8_isNode, cX8_isNode, 2, some .boolean)
theorem mc_X8_isNode : jv_MC M_X8_isNode 1 := ⟨jv_w (jv_tb 1083 (by decide +kernel)) rfl, jv_w (jv_tb 9 (by decide +kernel)) rfl, by decide +kernel, by decide⟩
def M_X8_setLength : jv_M := (yX8_setLength, cX8_setLength, 4, some .int)
theorem mc_X8_setLength : jv_MC M_X8_setLength 2 := ⟨jv_w (jv_tb 1087 (by decide +kernel)) rfl, jv_w (jv_tb 9 (by decide +kernel)) rfl, by decide +kernel, by decide⟩
def M_X8_isEdge : jv_M := (yX8_isEdge, cX8_isEdge, 2, some .boolean)
theorem mc_X8_isEdge : jv_MC M_X8_isEdge 1 := ⟨jv_w (jv_tb 1091 (by decide +kernel)) rfl, jv_w (jv_tb 9 (by decide +kernel)) rfl, by decide +kernel, by decide⟩
def M_X8_toggleEdge : jv_M := (yX8_toggleEdge, cX8_toggleEdge, 2, some .boolean)
theorem mc_X8_toggleEdge : jv_MC M_X8_toggleEdge 1 := ⟨jv_w (jv_tb 1095 (by decide +kernel)) rfl, jv_w (jv_tb 9 (by decide +kernel)) rfl, by decide +kernel, by decide⟩
def M_X8_toggleNode : jv_M := (yX8_toggleNode, cX8_toggleNode, 2, some .boolean)
theorem mc_X8_toggleNode : jv_MC M_X8_toggleNode 1 := ⟨jv_w (jv_tb 1099 (by decide +kernel)) rfl, jv_w (jv_tb 9 (by decide +kernel)) rfl, by decide +kernel, by decide⟩
def M_X8_toggleTurn : jv_M := (yX8_toggleTurn, cX8_toggleTurn, 4, some .boolean)
theorem mc_X8_toggleTurn : jv_MC M_X8_toggleTurn 2 := ⟨jv_w (jv_tb 1103 (by decide +kernel)) rfl, jv_w (jv_tb 9 (by decide +kernel)) rfl, by decide +kernel, by decide⟩
def M_X8_nodes : jv_M := (yX8_nodes, cX8_nodes, 1, some .int)
theorem mc_X8_nodes : jv_MC M_X8_nodes 0 := ⟨jv_w (jv_tb 1107 (by decide +kernel)) rfl, jv_w (jv_tb 9 (by decide +kernel)) rfl, by decide +kernel, by decide⟩
def M_X8_edges : jv_M := (yX8_edges, cX8_edges, 1, some .int)
theorem mc_X8_edges : jv_MC M_X8_edges 0 := ⟨jv_w (jv_tb 1111 (by decide +kernel)) rfl, jv_w (jv_tb 9 (by decide +kernel)) rfl, by decide +kernel, by decide⟩
def M_X8_usableEdges : jv_M := (yX8_usableEdges, cX8_usableEdges, 3, some .int)
theorem mc_X8_usableEdges : jv_MC M_X8_usableEdges 0 := ⟨jv_w (jv_tb 1115 (by decide +kernel)) rfl, jv_w (jv_tb 9 (by decide +kernel)) rfl, by decide +kernel, by decide⟩
def M_X8_isUsable : jv_M := (yX8_isUsable, cX8_isUsable, 2, some .boolean)
theorem mc_X8_isUsable : jv_MC M_X8_isUsable 1 := ⟨jv_w (jv_tb 1119 (by decide +kernel)) rfl, jv_w (jv_tb 9 (by decide +kernel)) rfl, by decide +kernel, by decide⟩
def M_X8_distance : jv_M := (yX8_distance, cX8_distance, 4, some .int)
theorem mc_X8_distance : jv_MC M_X8_distance 2 := ⟨jv_w (jv_tb 1123 (by decide +kernel)) rfl, jv_w (jv_tb 9 (by decide +kernel)) rfl, by decide +kernel, by decide⟩
def M_X8_shortest : jv_M := (yX8_shortest, cX8_shortest, 6, some .int)
theorem mc_X8_shortest : jv_MC M_X8_shortest 2 := ⟨jv_w (jv_tb 1127 (by decide +kernel)) rfl, jv_w (jv_tb 9 (by decide +kernel)) rfl, by decide +kernel, by decide⟩
def M_X8_startPaths : jv_M := (yX8_startPaths, cX8_startPaths, 3, none)
theorem mc_X8_startPaths : jv_MC M_X8_startPaths 2 := ⟨jv_w (jv_tb 1132 (by decide +kernel)) rfl, jv_w (jv_tb 9 (by decide +kernel)) rfl, by decide +kernel, by decide⟩
def M_X8_nextPath : jv_M := (yX8_nextPath, cX8_nextPath, 3, some .int)
theorem mc_X8_nextPath : jv_MC M_X8_nextPath 0 := ⟨jv_w (jv_tb 1136 (by decide +kernel)) rfl, jv_w (jv_tb 9 (by decide +kernel)) rfl, by decide +kernel, by decide⟩
def M_X8_goesAlong : jv_M := (yX8_goesAlong, cX8_goesAlong, 10, some .int)
theorem mc_X8_goesAlong : jv_MC M_X8_goesAlong 4 := ⟨jv_w (jv_tb 1140 (by decide +kernel)) rfl, jv_w (jv_tb 9 (by decide +kernel)) rfl, by decide +kernel, by decide⟩
def M_X8_goesOn : jv_M := (yX8_goesOn, cX8_goesOn, 4, some .boolean)
theorem mc_X8_goesOn : jv_MC M_X8_goesOn 3 := ⟨jv_w (jv_tb 1144 (by decide +kernel)) rfl, jv_w (jv_tb 9 (by decide +kernel)) rfl, by decide +kernel, by decide⟩
def M_X8_meets : jv_M := (yX8_meets, cX8_meets, 5, none)
theorem mc_X8_meets : jv_MC M_X8_meets 2 := ⟨jv_w (jv_tb 1148 (by decide +kernel)) rfl, jv_w (jv_tb 9 (by decide +kernel)) rfl, by decide +kernel, by decide⟩
def M_X8_isBehind : jv_M := (yX8_isBehind, cX8_isBehind, 3, some .boolean)
theorem mc_X8_isBehind : jv_MC M_X8_isBehind 1 := ⟨jv_w (jv_tb 1152 (by decide +kernel)) rfl, jv_w (jv_tb 9 (by decide +kernel)) rfl, by decide +kernel, by decide⟩
def M_X8_pathsDrawn : jv_M := (yX8_pathsDrawn, cX8_pathsDrawn, 1, some .int)
theorem mc_X8_pathsDrawn : jv_MC M_X8_pathsDrawn 0 := ⟨jv_w (jv_tb 1156 (by decide +kernel)) rfl, jv_w (jv_tb 9 (by decide +kernel)) rfl, by decide +kernel, by decide⟩
def M_X8_pathEdges : jv_M := (yX8_pathEdges, cX8_pathEdges, 1, some .int)
theorem mc_X8_pathEdges : jv_MC M_X8_pathEdges 0 := ⟨jv_w (jv_tb 1160 (by decide +kernel)) rfl, jv_w (jv_tb 9 (by decide +kernel)) rfl, by decide +kernel, by decide⟩
def M_X8_pathEdge : jv_M := (yX8_pathEdge, cX8_pathEdge, 2, some .int)
theorem mc_X8_pathEdge : jv_MC M_X8_pathEdge 1 := ⟨jv_w (jv_tb 1164 (by decide +kernel)) rfl, jv_w (jv_tb 9 (by decide +kernel)) rfl, by decide +kernel, by decide⟩
def M_X8_countPaths : jv_M := (yX8_countPaths, cX8_countPaths, 4, some .int)
theorem mc_X8_countPaths : jv_MC M_X8_countPaths 3 := ⟨jv_w (jv_tb 1168 (by decide +kernel)) rfl, jv_w (jv_tb 9 (by decide +kernel)) rfl, by decide +kernel, by decide⟩
def M_X8_startWalks : jv_M := (yX8_startWalks, cX8_startWalks, 3, none)
theorem mc_X8_startWalks : jv_MC M_X8_startWalks 2 := ⟨jv_w (jv_tb 1173 (by decide +kernel)) rfl, jv_w (jv_tb 9 (by decide +kernel)) rfl, by decide +kernel, by decide⟩
def M_X8_laysFirsts : jv_M := (yX8_laysFirsts, cX8_laysFirsts, 6, none)
theorem mc_X8_laysFirsts : jv_MC M_X8_laysFirsts 1 := ⟨jv_w (jv_tb 1177 (by decide +kernel)) rfl, jv_w (jv_tb 9 (by decide +kernel)) rfl, by decide +kernel, by decide⟩
def M_X8_waitsAt : jv_M := (yX8_waitsAt, cX8_waitsAt, 3, none)
theorem mc_X8_waitsAt : jv_MC M_X8_waitsAt 2 := ⟨jv_w (jv_tb 1181 (by decide +kernel)) rfl, jv_w (jv_tb 9 (by decide +kernel)) rfl, by decide +kernel, by decide⟩
def M_X8_nextWalk : jv_M := (yX8_nextWalk, cX8_nextWalk, 4, some .int)
theorem mc_X8_nextWalk : jv_MC M_X8_nextWalk 0 := ⟨jv_w (jv_tb 1185 (by decide +kernel)) rfl, jv_w (jv_tb 9 (by decide +kernel)) rfl, by decide +kernel, by decide⟩
def M_X8_laysWalk : jv_M := (yX8_laysWalk, cX8_laysWalk, 8, none)
theorem mc_X8_laysWalk : jv_MC M_X8_laysWalk 2 := ⟨jv_w (jv_tb 1189 (by decide +kernel)) rfl, jv_w (jv_tb 9 (by decide +kernel)) rfl, by decide +kernel, by decide⟩
def M_X8_leads : jv_M := (yX8_leads, cX8_leads, 4, some .int)
theorem mc_X8_leads : jv_MC M_X8_leads 3 := ⟨jv_w (jv_tb 1193 (by decide +kernel)) rfl, jv_w (jv_tb 9 (by decide +kernel)) rfl, by decide +kernel, by decide⟩
def M_X8_alike : jv_M := (yX8_alike, cX8_alike, 5, some .int)
theorem mc_X8_alike : jv_MC M_X8_alike 2 := ⟨jv_w (jv_tb 1197 (by decide +kernel)) rfl, jv_w (jv_tb 9 (by decide +kernel)) rfl, by decide +kernel, by decide⟩
def M_X8_walksDrawn : jv_M := (yX8_walksDrawn, cX8_walksDrawn, 1, some .int)
theorem mc_X8_walksDrawn : jv_MC M_X8_walksDrawn 0 := ⟨jv_w (jv_tb 1201 (by decide +kernel)) rfl, jv_w (jv_tb 9 (by decide +kernel)) rfl, by decide +kernel, by decide⟩
def M_X8_walkEdges : jv_M := (yX8_walkEdges, cX8_walkEdges, 1, some .int)
theorem mc_X8_walkEdges : jv_MC M_X8_walkEdges 0 := ⟨jv_w (jv_tb 1205 (by decide +kernel)) rfl, jv_w (jv_tb 9 (by decide +kernel)) rfl, by decide +kernel, by decide⟩
def M_X8_walkEdge : jv_M := (yX8_walkEdge, cX8_walkEdge, 2, some .int)
theorem mc_X8_walkEdge : jv_MC M_X8_walkEdge 1 := ⟨jv_w (jv_tb 1209 (by decide +kernel)) rfl, jv_w (jv_tb 9 (by decide +kernel)) rfl, by decide +kernel, by decide⟩
def M_X8_disjointPaths : jv_M := (yX8_disjointPaths, cX8_disjointPaths, 4, some .int)
theorem mc_X8_disjointPaths : jv_MC M_X8_disjointPaths 3 := ⟨jv_w (jv_tb 1213 (by decide +kernel)) rfl, jv_w (jv_tb 9 (by decide +kernel)) rfl, by decide +kernel, by decide⟩
def M_X8_many : jv_M := (yX8_many, cX8_many, 5, some .int)
theorem mc_X8_many : jv_MC M_X8_many 3 := ⟨jv_w (jv_tb 1217 (by decide +kernel)) rfl, jv_w (jv_tb 9 (by decide +kernel)) rfl, by decide +kernel, by decide⟩
def M_X8_laysArcs : jv_M := (yX8_laysArcs, cX8_laysArcs, 5, none)
theorem mc_X8_laysArcs : jv_MC M_X8_laysArcs 3 := ⟨jv_w (jv_tb 1221 (by decide +kernel)) rfl, jv_w (jv_tb 9 (by decide +kernel)) rfl, by decide +kernel, by decide⟩
def M_X8_arc : jv_M := (yX8_arc, cX8_arc, 4, none)
theorem mc_X8_arc : jv_MC M_X8_arc 3 := ⟨jv_w (jv_tb 1225 (by decide +kernel)) rfl, jv_w (jv_tb 9 (by decide +kernel)) rfl, by decide +kernel, by decide⟩
def M_X8_flows : jv_M := (yX8_flows, cX8_flows, 6, some .int)
theorem mc_X8_flows : jv_MC M_X8_flows 2 := ⟨jv_w (jv_tb 1229 (by decide +kernel)) rfl, jv_w (jv_tb 9 (by decide +kernel)) rfl, by decide +kernel, by decide⟩
def M_X8_disjointLength : jv_M := (yX8_disjointLength, cX8_disjointLength, 7, some .int)
theorem mc_X8_disjointLength : jv_MC M_X8_disjointLength 4 := ⟨jv_w (jv_tb 1233 (by decide +kernel)) rfl, jv_w (jv_tb 9 (by decide +kernel)) rfl, by decide +kernel, by decide⟩
def M_X8_together : jv_M := (yX8_together, cX8_together, 8, some .int)
theorem mc_X8_together : jv_MC M_X8_together 4 := ⟨jv_w (jv_tb 1237 (by decide +kernel)) rfl, jv_w (jv_tb 9 (by decide +kernel)) rfl, by decide +kernel, by decide⟩
def M_X8_allowedLength : jv_M := (yX8_allowedLength, cX8_allowedLength, 3, some .int)
theorem mc_X8_allowedLength : jv_MC M_X8_allowedLength 2 := ⟨jv_w (jv_tb 1241 (by decide +kernel)) rfl, jv_w (jv_tb 9 (by decide +kernel)) rfl, by decide +kernel, by decide⟩
def M_X8_errorOfAllowed : jv_M := (yX8_errorOfAllowed, cX8_errorOfAllowed, 3, some .int)
theorem mc_X8_errorOfAllowed : jv_MC M_X8_errorOfAllowed 2 := ⟨jv_w (jv_tb 1245 (by decide +kernel)) rfl, jv_w (jv_tb 9 (by decide +kernel)) rfl, by decide +kernel, by decide⟩
def M_X8_laysAllowed : jv_M := (yX8_laysAllowed, cX8_laysAllowed, 5, some .int)
theorem mc_X8_laysAllowed : jv_MC M_X8_laysAllowed 2 := ⟨jv_w (jv_tb 1249 (by decide +kernel)) rfl, jv_w (jv_tb 9 (by decide +kernel)) rfl, by decide +kernel, by decide⟩
def M_X8_laysRests : jv_M := (yX8_laysRests, cX8_laysRests, 5, none)
theorem mc_X8_laysRests : jv_MC M_X8_laysRests 1 := ⟨jv_w (jv_tb 1253 (by decide +kernel)) rfl, jv_w (jv_tb 9 (by decide +kernel)) rfl, by decide +kernel, by decide⟩
def M_X8_mayFollow : jv_M := (yX8_mayFollow, cX8_mayFollow, 3, some .boolean)
theorem mc_X8_mayFollow : jv_MC M_X8_mayFollow 2 := ⟨jv_w (jv_tb 1257 (by decide +kernel)) rfl, jv_w (jv_tb 9 (by decide +kernel)) rfl, by decide +kernel, by decide⟩
def M_X8_nextOf : jv_M := (yX8_nextOf, cX8_nextOf, 4, some .int)
theorem mc_X8_nextOf : jv_MC M_X8_nextOf 1 := ⟨jv_w (jv_tb 1261 (by decide +kernel)) rfl, jv_w (jv_tb 9 (by decide +kernel)) rfl, by decide +kernel, by decide⟩
def M_X8_allowedEdges : jv_M := (yX8_allowedEdges, cX8_allowedEdges, 3, some .int)
theorem mc_X8_allowedEdges : jv_MC M_X8_allowedEdges 2 := ⟨jv_w (jv_tb 1265 (by decide +kernel)) rfl, jv_w (jv_tb 9 (by decide +kernel)) rfl, by decide +kernel, by decide⟩
def M_X8_allowedEdge : jv_M := (yX8_allowedEdge, cX8_allowedEdge, 4, some .int)
theorem mc_X8_allowedEdge : jv_MC M_X8_allowedEdge 3 := ⟨jv_w (jv_tb 1269 (by decide +kernel)) rfl, jv_w (jv_tb 9 (by decide +kernel)) rfl, by decide +kernel, by decide⟩
theorem lS_X7_60 : jv_MS RX7 60 M_X7_requireRange 3 := ⟨mc_X7_requireRange, jv_w (jv_tb 285 (by decide +kernel)) rfl, jv_w (jv_tb 286 (by decide +kernel)) rfl⟩
theorem lV_X7_64 : jv_MV RX7 64 M_X3_clear 1 := ⟨mc_X3_clear, jv_w (jv_tb 356 (by decide +kernel)) rfl, jv_w (jv_tb 357 (by decide +kernel)) rfl, jv_w (jv_tb 358 (by decide +kernel)) rfl⟩
theorem lV_X7_68 : jv_MV RX7 68 M_X7_endDraws 0 := ⟨mc_X7_endDraws, jv_w (jv_tb 385 (by decide +kernel)) rfl, jv_w (jv_tb 387 (by decide +kernel)) rfl, jv_w (List.mem_append_left _ (List.mem_of_getElem? (i := 3) (by decide +kernel))) rfl⟩
theorem lV_X7_71 : jv_MV RX7 71 M_X7_requireTwoNodes 2 := ⟨mc_X7_requireTwoNodes, jv_w (jv_tb 397 (by decide +kernel)) rfl, jv_w (jv_tb 399 (by decide +kernel)) rfl, jv_w (List.mem_append_left _ (List.mem_of_getElem? (i := 4) (by decide +kernel))) rfl⟩
theorem lV_X7_75 : jv_MV RX7 75 M_X3_hasRoom 0 := ⟨mc_X3_hasRoom, jv_w (jv_tb 411 (by decide +kernel)) rfl, jv_w (jv_tb 412 (by decide +kernel)) rfl, jv_w (jv_tb 413 (by decide +kernel)) rfl⟩
theorem lV_X7_86 : jv_MV RX7 86 M_X3_append 3 := ⟨mc_X3_append, jv_w (jv_tb 431 (by decide +kernel)) rfl, jv_w (jv_tb 432 (by decide +kernel)) rfl, jv_w (jv_tb 433 (by decide +kernel)) rfl⟩
theorem lV_X7_90 : jv_MV RX7 90 M_X7_requireEdge 1 := ⟨mc_X7_requireEdge, jv_w (jv_tb 442 (by decide +kernel)) rfl, jv_w (jv_tb 444 (by decide +kernel)) rfl, jv_w (List.mem_append_left _ (List.mem_of_getElem? (i := 6) (by decide +kernel))) rfl⟩
theorem lV_X7_93 : jv_MV RX7 93 M_X3_changeLength 2 := ⟨mc_X3_changeLength, jv_w (jv_tb 451 (by decide +kernel)) rfl, jv_w (jv_tb 452 (by decide +kernel)) rfl, jv_w (jv_tb 453 (by decide +kernel)) rfl⟩
theorem lV_X7_97 : jv_MV RX7 97 M_X3_switchEdge 1 := ⟨mc_X3_switchEdge, jv_w (jv_tb 466 (by decide +kernel)) rfl, jv_w (jv_tb 467 (by decide +kernel)) rfl, jv_w (jv_tb 468 (by decide +kernel)) rfl⟩
theorem lV_X7_101 : jv_MV RX7 101 M_X7_requireNodes 2 := ⟨mc_X7_requireNodes, jv_w (jv_tb 401 (by decide +kernel)) rfl, jv_w (jv_tb 403 (by decide +kernel)) rfl, jv_w (List.mem_append_left _ (List.mem_of_getElem? (i := 5) (by decide +kernel))) rfl⟩
theorem lV_X7_104 : jv_MV RX7 104 M_X3_switchNode 1 := ⟨mc_X3_switchNode, jv_w (jv_tb 477 (by decide +kernel)) rfl, jv_w (jv_tb 478 (by decide +kernel)) rfl, jv_w (jv_tb 479 (by decide +kernel)) rfl⟩
theorem lV_X7_107 : jv_MV RX7 107 M_X3_headOf 1 := ⟨mc_X3_headOf, jv_w (jv_tb 488 (by decide +kernel)) rfl, jv_w (jv_tb 382 (by decide +kernel)) rfl, jv_w (jv_tb 383 (by decide +kernel)) rfl⟩
theorem lV_X7_111 : jv_MV RX7 111 M_X3_tailOf 1 := ⟨mc_X3_tailOf, jv_w (jv_tb 489 (by decide +kernel)) rfl, jv_w (jv_tb 371 (by decide +kernel)) rfl, jv_w (jv_tb 372 (by decide +kernel)) rfl⟩
theorem lV_X7_119 : jv_MV RX7 119 M_X3_switchTurn 2 := ⟨mc_X3_switchTurn, jv_w (jv_tb 491 (by decide +kernel)) rfl, jv_w (jv_tb 492 (by decide +kernel)) rfl, jv_w (jv_tb 493 (by decide +kernel)) rfl⟩
theorem lV_X7_123 : jv_MV RX7 123 M_X3_nodeTotal 0 := ⟨mc_X3_nodeTotal, jv_w (jv_tb 254 (by decide +kernel)) rfl, jv_w (jv_tb 255 (by decide +kernel)) rfl, jv_w (jv_tb 256 (by decide +kernel)) rfl⟩
theorem lV_X7_127 : jv_MV RX7 127 M_X3_edgeTotal 0 := ⟨mc_X3_edgeTotal, jv_w (jv_tb 262 (by decide +kernel)) rfl, jv_w (jv_tb 263 (by decide +kernel)) rfl, jv_w (jv_tb 264 (by decide +kernel)) rfl⟩
theorem lV_X7_130 : jv_MV RX7 130 M_X3_usableTotal 0 := ⟨mc_X3_usableTotal, jv_w (jv_tb 270 (by decide +kernel)) rfl, jv_w (jv_tb 271 (by decide +kernel)) rfl, jv_w (jv_tb 272 (by decide +kernel)) rfl⟩
theorem lV_X7_133 : jv_MV RX7 133 M_X2_measureTo 1 := ⟨mc_X2_measureTo, jv_w (jv_tb 507 (by decide +kernel)) rfl, jv_w (jv_tb 508 (by decide +kernel)) rfl, jv_w (jv_tb 509 (by decide +kernel)) rfl⟩
theorem lV_X7_136 : jv_MV RX7 136 M_X2_ofNode 1 := ⟨mc_X2_ofNode, jv_w (jv_tb 531 (by decide +kernel)) rfl, jv_w (jv_tb 526 (by decide +kernel)) rfl, jv_w (jv_tb 527 (by decide +kernel)) rfl⟩
theorem lS_X7_139 : jv_MS RX7 139 M_X7_requireWay 1 := ⟨mc_X7_requireWay, jv_w (jv_tb 532 (by decide +kernel)) rfl, jv_w (jv_tb 533 (by decide +kernel)) rfl⟩
theorem lV_X7_142 : jv_MV RX7 142 M_X5_restart 2 := ⟨mc_X5_restart, jv_w (jv_tb 559 (by decide +kernel)) rfl, jv_w (jv_tb 560 (by decide +kernel)) rfl, jv_w (jv_tb 561 (by decide +kernel)) rfl⟩
theorem lS_X7_149 : jv_MS RX7 149 M_X7_requireStarted 1 := ⟨mc_X7_requireStarted, jv_w (jv_tb 570 (by decide +kernel)) rfl, jv_w (jv_tb 571 (by decide +kernel)) rfl⟩
theorem lV_X7_153 : jv_MV RX7 153 M_X5_advance 0 := ⟨mc_X5_advance, jv_w (jv_tb 574 (by decide +kernel)) rfl, jv_w (jv_tb 575 (by decide +kernel)) rfl, jv_w (jv_tb 576 (by decide +kernel)) rfl⟩
theorem lV_X7_161 : jv_MV RX7 161 M_X5_currentLength 0 := ⟨mc_X5_currentLength, jv_w (jv_tb 628 (by decide +kernel)) rfl, jv_w (jv_tb 629 (by decide +kernel)) rfl, jv_w (jv_tb 630 (by decide +kernel)) rfl⟩
theorem lV_X7_164 : jv_MV RX7 164 M_X5_drawnTotal 0 := ⟨mc_X5_drawnTotal, jv_w (jv_tb 639 (by decide +kernel)) rfl, jv_w (jv_tb 640 (by decide +kernel)) rfl, jv_w (jv_tb 641 (by decide +kernel)) rfl⟩
theorem lS_X7_167 : jv_MS RX7 167 M_X7_requireDrawn 1 := ⟨mc_X7_requireDrawn, jv_w (jv_tb 650 (by decide +kernel)) rfl, jv_w (jv_tb 651 (by decide +kernel)) rfl⟩
theorem lV_X7_170 : jv_MV RX7 170 M_X5_currentSize 0 := ⟨mc_X5_currentSize, jv_w (jv_tb 654 (by decide +kernel)) rfl, jv_w (jv_tb 655 (by decide +kernel)) rfl, jv_w (jv_tb 656 (by decide +kernel)) rfl⟩
theorem lV_X7_173 : jv_MV RX7 173 M_X5_currentEdge 1 := ⟨mc_X5_currentEdge, jv_w (jv_tb 670 (by decide +kernel)) rfl, jv_w (jv_tb 659 (by decide +kernel)) rfl, jv_w (jv_tb 660 (by decide +kernel)) rfl⟩
theorem lS_X7_176 : jv_MS RX7 176 M_X7_requireListed 1 := ⟨mc_X7_requireListed, jv_w (jv_tb 671 (by decide +kernel)) rfl, jv_w (jv_tb 672 (by decide +kernel)) rfl⟩
theorem lV_X7_180 : jv_MV RX7 180 M_X4_upTo 3 := ⟨mc_X4_upTo, jv_w (jv_tb 683 (by decide +kernel)) rfl, jv_w (jv_tb 684 (by decide +kernel)) rfl, jv_w (jv_tb 685 (by decide +kernel)) rfl⟩
theorem lV_X7_183 : jv_MV RX7 183 M_X6_restart 2 := ⟨mc_X6_restart, jv_w (jv_tb 705 (by decide +kernel)) rfl, jv_w (jv_tb 706 (by decide +kernel)) rfl, jv_w (jv_tb 707 (by decide +kernel)) rfl⟩
theorem lV_X7_187 : jv_MV RX7 187 M_X6_drawnTotal 0 := ⟨mc_X6_drawnTotal, jv_w (jv_tb 726 (by decide +kernel)) rfl, jv_w (jv_tb 727 (by decide +kernel)) rfl, jv_w (jv_tb 728 (by decide +kernel)) rfl⟩
theorem lV_X7_190 : jv_MV RX7 190 M_X6_advance 0 := ⟨mc_X6_advance, jv_w (jv_tb 731 (by decide +kernel)) rfl, jv_w (jv_tb 732 (by decide +kernel)) rfl, jv_w (jv_tb 733 (by decide +kernel)) rfl⟩
theorem lV_X7_193 : jv_MV RX7 193 M_X6_currentLength 0 := ⟨mc_X6_currentLength, jv_w (jv_tb 750 (by decide +kernel)) rfl, jv_w (jv_tb 751 (by decide +kernel)) rfl, jv_w (jv_tb 752 (by decide +kernel)) rfl⟩
theorem lV_X7_194 : jv_MV RX7 194 M_X6_currentSize 0 := ⟨mc_X6_currentSize, jv_w (jv_tb 772 (by decide +kernel)) rfl, jv_w (jv_tb 773 (by decide +kernel)) rfl, jv_w (jv_tb 774 (by decide +kernel)) rfl⟩
theorem lV_X7_195 : jv_MV RX7 195 M_X6_currentEdge 1 := ⟨mc_X6_currentEdge, jv_w (jv_tb 783 (by decide +kernel)) rfl, jv_w (jv_tb 784 (by decide +kernel)) rfl, jv_w (jv_tb 785 (by decide +kernel)) rfl⟩
theorem lV_X7_196 : jv_MV RX7 196 M_X1_pathTotal 3 := ⟨mc_X1_pathTotal, jv_w (jv_tb 795 (by decide +kernel)) rfl, jv_w (jv_tb 796 (by decide +kernel)) rfl, jv_w (jv_tb 797 (by decide +kernel)) rfl⟩
theorem lV_X7_200 : jv_MV RX7 200 M_X1_leastLength 4 := ⟨mc_X1_leastLength, jv_w (jv_tb 845 (by decide +kernel)) rfl, jv_w (jv_tb 846 (by decide +kernel)) rfl, jv_w (jv_tb 847 (by decide +kernel)) rfl⟩
theorem lV_X7_204 : jv_MV RX7 204 M_X0_find 2 := ⟨mc_X0_find, jv_w (jv_tb 856 (by decide +kernel)) rfl, jv_w (jv_tb 857 (by decide +kernel)) rfl, jv_w (jv_tb 858 (by decide +kernel)) rfl⟩
theorem lV_X7_207 : jv_MV RX7 207 M_X0_foundSize 0 := ⟨mc_X0_foundSize, jv_w (jv_tb 894 (by decide +kernel)) rfl, jv_w (jv_tb 895 (by decide +kernel)) rfl, jv_w (jv_tb 896 (by decide +kernel)) rfl⟩
theorem lV_X7_210 : jv_MV RX7 210 M_X0_foundEdge 1 := ⟨mc_X0_foundEdge, jv_w (jv_tb 905 (by decide +kernel)) rfl, jv_w (jv_tb 906 (by decide +kernel)) rfl, jv_w (jv_tb 907 (by decide +kernel)) rfl⟩
theorem lV_X7_213 : jv_MV RX7 213 M_X3_hasNode 1 := ⟨mc_X3_hasNode, jv_w (jv_tb 405 (by decide +kernel)) rfl, jv_w (jv_tb 406 (by decide +kernel)) rfl, jv_w (jv_tb 407 (by decide +kernel)) rfl⟩
theorem lV_X7_220 : jv_MV RX7 220 M_X3_hasEdge 1 := ⟨mc_X3_hasEdge, jv_w (jv_tb 446 (by decide +kernel)) rfl, jv_w (jv_tb 447 (by decide +kernel)) rfl, jv_w (jv_tb 448 (by decide +kernel)) rfl⟩
theorem lV_X0_26 : jv_MV RX0 26 M_X0_measureTo 1 := ⟨mc_X0_measureTo, jv_w (jv_tb 860 (by decide +kernel)) rfl, jv_w (jv_tb 862 (by decide +kernel)) rfl, jv_w (List.mem_append_left _ (List.mem_of_getElem? (i := 22) (by decide +kernel))) rfl⟩
theorem lV_X0_30 : jv_MV RX0 30 M_X0_bestAfter 2 := ⟨mc_X0_bestAfter, jv_w (jv_tb 873 (by decide +kernel)) rfl, jv_w (jv_tb 875 (by decide +kernel)) rfl, jv_w (List.mem_append_left _ (List.mem_of_getElem? (i := 24) (by decide +kernel))) rfl⟩
theorem lV_X0_34 : jv_MV RX0 34 M_X0_lengthFrom 1 := ⟨mc_X0_lengthFrom, jv_w (jv_tb 880 (by decide +kernel)) rfl, jv_w (jv_tb 882 (by decide +kernel)) rfl, jv_w (List.mem_append_left _ (List.mem_of_getElem? (i := 25) (by decide +kernel))) rfl⟩
theorem lV_X0_42 : jv_MV RX0 42 M_X3_headOf 1 := ⟨mc_X3_headOf, jv_w (jv_tb 872 (by decide +kernel)) rfl, jv_w (jv_tb 382 (by decide +kernel)) rfl, jv_w (jv_tb 383 (by decide +kernel)) rfl⟩
theorem lS_X0_48 : jv_MS RX0 48 M_J7_fill_53178 2 := ⟨mc_J7_fill_53178, jv_w (jv_tb 865 (by decide +kernel)) rfl, jv_w (jv_tb 361 (by decide +kernel)) rfl⟩
theorem lV_X0_54 : jv_MV RX0 54 M_X0_shortenAll 1 := ⟨mc_X0_shortenAll, jv_w (jv_tb 866 (by decide +kernel)) rfl, jv_w (jv_tb 868 (by decide +kernel)) rfl, jv_w (List.mem_append_left _ (List.mem_of_getElem? (i := 23) (by decide +kernel))) rfl⟩
theorem lV_X0_58 : jv_MV RX0 58 M_X3_usableTotal 0 := ⟨mc_X3_usableTotal, jv_w (jv_tb 870 (by decide +kernel)) rfl, jv_w (jv_tb 271 (by decide +kernel)) rfl, jv_w (jv_tb 272 (by decide +kernel)) rfl⟩
theorem lV_X0_62 : jv_MV RX0 62 M_X3_outEdge 1 := ⟨mc_X3_outEdge, jv_w (jv_tb 871 (by decide +kernel)) rfl, jv_w (jv_tb 520 (by decide +kernel)) rfl, jv_w (jv_tb 521 (by decide +kernel)) rfl⟩
theorem lV_X0_65 : jv_MV RX0 65 M_X3_lengthOf 1 := ⟨mc_X3_lengthOf, jv_w (jv_tb 885 (by decide +kernel)) rfl, jv_w (jv_tb 456 (by decide +kernel)) rfl, jv_w (jv_tb 457 (by decide +kernel)) rfl⟩
theorem lV_X0_72 : jv_MV RX0 72 M_X3_outStart 1 := ⟨mc_X3_outStart, jv_w (jv_tb 877 (by decide +kernel)) rfl, jv_w (jv_tb 587 (by decide +kernel)) rfl, jv_w (jv_tb 588 (by decide +kernel)) rfl⟩
theorem lV_X0_75 : jv_MV RX0 75 M_X3_outEnd 1 := ⟨mc_X3_outEnd, jv_w (jv_tb 878 (by decide +kernel)) rfl, jv_w (jv_tb 591 (by decide +kernel)) rfl, jv_w (jv_tb 592 (by decide +kernel)) rfl⟩
theorem lV_X0_78 : jv_MV RX0 78 M_X3_isForbidden 2 := ⟨mc_X3_isForbidden, jv_w (jv_tb 879 (by decide +kernel)) rfl, jv_w (jv_tb 496 (by decide +kernel)) rfl, jv_w (jv_tb 497 (by decide +kernel)) rfl⟩
theorem lV_X1_37 : jv_MV RX1 37 M_X1_layArcs 3 := ⟨mc_X1_layArcs, jv_w (jv_tb 799 (by decide +kernel)) rfl, jv_w (jv_tb 801 (by decide +kernel)) rfl, jv_w (List.mem_append_left _ (List.mem_of_getElem? (i := 16) (by decide +kernel))) rfl⟩
theorem lV_X1_41 : jv_MV RX1 41 M_X1_addPath 0 := ⟨mc_X1_addPath, jv_w (jv_tb 820 (by decide +kernel)) rfl, jv_w (jv_tb 822 (by decide +kernel)) rfl, jv_w (List.mem_append_left _ (List.mem_of_getElem? (i := 18) (by decide +kernel))) rfl⟩
theorem lS_X1_46 : jv_MS RX1 46 M_X1_pointBehind 1 := ⟨mc_X1_pointBehind, jv_w (jv_tb 803 (by decide +kernel)) rfl, jv_w (jv_tb 804 (by decide +kernel)) rfl⟩
theorem lS_X1_54 : jv_MS RX1 54 M_X1_pointBefore 1 := ⟨mc_X1_pointBefore, jv_w (jv_tb 806 (by decide +kernel)) rfl, jv_w (jv_tb 807 (by decide +kernel)) rfl⟩
theorem lS_X1_60 : jv_MS RX1 60 M_J7_fill_53178 2 := ⟨mc_J7_fill_53178, jv_w (jv_tb 809 (by decide +kernel)) rfl, jv_w (jv_tb 361 (by decide +kernel)) rfl⟩
theorem lV_X1_66 : jv_MV RX1 66 M_X3_usableTotal 0 := ⟨mc_X3_usableTotal, jv_w (jv_tb 810 (by decide +kernel)) rfl, jv_w (jv_tb 271 (by decide +kernel)) rfl, jv_w (jv_tb 272 (by decide +kernel)) rfl⟩
theorem lV_X1_71 : jv_MV RX1 71 M_X3_outEdge 1 := ⟨mc_X3_outEdge, jv_w (jv_tb 811 (by decide +kernel)) rfl, jv_w (jv_tb 520 (by decide +kernel)) rfl, jv_w (jv_tb 521 (by decide +kernel)) rfl⟩
theorem lV_X1_74 : jv_MV RX1 74 M_X3_tailOf 1 := ⟨mc_X3_tailOf, jv_w (jv_tb 812 (by decide +kernel)) rfl, jv_w (jv_tb 371 (by decide +kernel)) rfl, jv_w (jv_tb 372 (by decide +kernel)) rfl⟩
theorem lV_X1_77 : jv_MV RX1 77 M_X3_headOf 1 := ⟨mc_X3_headOf, jv_w (jv_tb 813 (by decide +kernel)) rfl, jv_w (jv_tb 382 (by decide +kernel)) rfl, jv_w (jv_tb 383 (by decide +kernel)) rfl⟩
theorem lV_X1_80 : jv_MV RX1 80 M_X1_layArc 4 := ⟨mc_X1_layArc, jv_w (jv_tb 814 (by decide +kernel)) rfl, jv_w (jv_tb 816 (by decide +kernel)) rfl, jv_w (List.mem_append_left _ (List.mem_of_getElem? (i := 17) (by decide +kernel))) rfl⟩
theorem lV_X1_84 : jv_MV RX1 84 M_X3_lengthOf 1 := ⟨mc_X3_lengthOf, jv_w (jv_tb 819 (by decide +kernel)) rfl, jv_w (jv_tb 456 (by decide +kernel)) rfl, jv_w (jv_tb 457 (by decide +kernel)) rfl⟩
theorem lV_X1_91 : jv_MV RX1 91 M_X1_cheapenAll 0 := ⟨mc_X1_cheapenAll, jv_w (jv_tb 825 (by decide +kernel)) rfl, jv_w (jv_tb 827 (by decide +kernel)) rfl, jv_w (List.mem_append_left _ (List.mem_of_getElem? (i := 19) (by decide +kernel))) rfl⟩
theorem lV_X1_99 : jv_MV RX1 99 M_X1_send 0 := ⟨mc_X1_send, jv_w (jv_tb 834 (by decide +kernel)) rfl, jv_w (jv_tb 836 (by decide +kernel)) rfl, jv_w (List.mem_append_left _ (List.mem_of_getElem? (i := 21) (by decide +kernel))) rfl⟩
theorem lV_X1_102 : jv_MV RX1 102 M_X1_reach 4 := ⟨mc_X1_reach, jv_w (jv_tb 830 (by decide +kernel)) rfl, jv_w (jv_tb 832 (by decide +kernel)) rfl, jv_w (List.mem_append_left _ (List.mem_of_getElem? (i := 20) (by decide +kernel))) rfl⟩
theorem lS_X2_20 : jv_MS RX2 20 M_J7_fill_53178 2 := ⟨mc_J7_fill_53178, jv_w (jv_tb 512 (by decide +kernel)) rfl, jv_w (jv_tb 361 (by decide +kernel)) rfl⟩
theorem lV_X2_30 : jv_MV RX2 30 M_X2_shortenAll 0 := ⟨mc_X2_shortenAll, jv_w (jv_tb 514 (by decide +kernel)) rfl, jv_w (jv_tb 516 (by decide +kernel)) rfl, jv_w (List.mem_append_left _ (List.mem_of_getElem? (i := 7) (by decide +kernel))) rfl⟩
theorem lV_X2_34 : jv_MV RX2 34 M_X3_usableTotal 0 := ⟨mc_X3_usableTotal, jv_w (jv_tb 518 (by decide +kernel)) rfl, jv_w (jv_tb 271 (by decide +kernel)) rfl, jv_w (jv_tb 272 (by decide +kernel)) rfl⟩
theorem lV_X2_40 : jv_MV RX2 40 M_X3_outEdge 1 := ⟨mc_X3_outEdge, jv_w (jv_tb 519 (by decide +kernel)) rfl, jv_w (jv_tb 520 (by decide +kernel)) rfl, jv_w (jv_tb 521 (by decide +kernel)) rfl⟩
theorem lV_X2_44 : jv_MV RX2 44 M_X3_lengthOf 1 := ⟨mc_X3_lengthOf, jv_w (jv_tb 523 (by decide +kernel)) rfl, jv_w (jv_tb 456 (by decide +kernel)) rfl, jv_w (jv_tb 457 (by decide +kernel)) rfl⟩
theorem lV_X2_47 : jv_MV RX2 47 M_X3_headOf 1 := ⟨mc_X3_headOf, jv_w (jv_tb 524 (by decide +kernel)) rfl, jv_w (jv_tb 382 (by decide +kernel)) rfl, jv_w (jv_tb 383 (by decide +kernel)) rfl⟩
theorem lV_X2_50 : jv_MV RX2 50 M_X2_ofNode 1 := ⟨mc_X2_ofNode, jv_w (jv_tb 525 (by decide +kernel)) rfl, jv_w (jv_tb 526 (by decide +kernel)) rfl, jv_w (jv_tb 527 (by decide +kernel)) rfl⟩
theorem lV_X2_53 : jv_MV RX2 53 M_X3_tailOf 1 := ⟨mc_X3_tailOf, jv_w (jv_tb 530 (by decide +kernel)) rfl, jv_w (jv_tb 371 (by decide +kernel)) rfl, jv_w (jv_tb 372 (by decide +kernel)) rfl⟩
theorem lS_X3_43 : jv_MS RX3 43 M_J7_fill_53178 2 := ⟨mc_J7_fill_53178, jv_w (jv_tb 360 (by decide +kernel)) rfl, jv_w (jv_tb 361 (by decide +kernel)) rfl⟩
theorem lV_X3_49 : jv_MV RX3 49 M_X3_listOutEdges 0 := ⟨mc_X3_listOutEdges, jv_w (jv_tb 363 (by decide +kernel)) rfl, jv_w (jv_tb 365 (by decide +kernel)) rfl, jv_w (List.mem_append_left _ (List.mem_of_getElem? (i := 1) (by decide +kernel))) rfl⟩
theorem lV_X3_56 : jv_MV RX3 56 M_X3_lengthOf 1 := ⟨mc_X3_lengthOf, jv_w (jv_tb 455 (by decide +kernel)) rfl, jv_w (jv_tb 456 (by decide +kernel)) rfl, jv_w (jv_tb 457 (by decide +kernel)) rfl⟩
theorem lV_X3_68 : jv_MV RX3 68 M_X3_isForbidden 2 := ⟨mc_X3_isForbidden, jv_w (jv_tb 495 (by decide +kernel)) rfl, jv_w (jv_tb 496 (by decide +kernel)) rfl, jv_w (jv_tb 497 (by decide +kernel)) rfl⟩
theorem lV_X3_71 : jv_MV RX3 71 M_X3_tailOf 1 := ⟨mc_X3_tailOf, jv_w (jv_tb 370 (by decide +kernel)) rfl, jv_w (jv_tb 371 (by decide +kernel)) rfl, jv_w (jv_tb 372 (by decide +kernel)) rfl⟩
theorem lV_X3_74 : jv_MV RX3 74 M_X3_isUsable 1 := ⟨mc_X3_isUsable, jv_w (jv_tb 374 (by decide +kernel)) rfl, jv_w (jv_tb 376 (by decide +kernel)) rfl, jv_w (List.mem_append_left _ (List.mem_of_getElem? (i := 2) (by decide +kernel))) rfl⟩
theorem lV_X3_78 : jv_MV RX3 78 M_X3_headOf 1 := ⟨mc_X3_headOf, jv_w (jv_tb 381 (by decide +kernel)) rfl, jv_w (jv_tb 382 (by decide +kernel)) rfl, jv_w (jv_tb 383 (by decide +kernel)) rfl⟩
theorem lV_X4_28 : jv_MV RX4 28 M_X2_measureTo 1 := ⟨mc_X2_measureTo, jv_w (jv_tb 687 (by decide +kernel)) rfl, jv_w (jv_tb 508 (by decide +kernel)) rfl, jv_w (jv_tb 509 (by decide +kernel)) rfl⟩
theorem lS_X4_32 : jv_MS RX4 32 M_X4_countFrom 5 := ⟨mc_X4_countFrom, jv_w (jv_tb 688 (by decide +kernel)) rfl, jv_w (jv_tb 689 (by decide +kernel)) rfl⟩
theorem lV_X4_36 : jv_MV RX4 36 M_X3_outStart 1 := ⟨mc_X3_outStart, jv_w (jv_tb 691 (by decide +kernel)) rfl, jv_w (jv_tb 587 (by decide +kernel)) rfl, jv_w (jv_tb 588 (by decide +kernel)) rfl⟩
theorem lV_X4_42 : jv_MV RX4 42 M_X3_outEnd 1 := ⟨mc_X3_outEnd, jv_w (jv_tb 692 (by decide +kernel)) rfl, jv_w (jv_tb 591 (by decide +kernel)) rfl, jv_w (jv_tb 592 (by decide +kernel)) rfl⟩
theorem lV_X4_45 : jv_MV RX4 45 M_X3_outEdge 1 := ⟨mc_X3_outEdge, jv_w (jv_tb 693 (by decide +kernel)) rfl, jv_w (jv_tb 520 (by decide +kernel)) rfl, jv_w (jv_tb 521 (by decide +kernel)) rfl⟩
theorem lV_X4_48 : jv_MV RX4 48 M_X3_headOf 1 := ⟨mc_X3_headOf, jv_w (jv_tb 694 (by decide +kernel)) rfl, jv_w (jv_tb 382 (by decide +kernel)) rfl, jv_w (jv_tb 383 (by decide +kernel)) rfl⟩
theorem lV_X4_51 : jv_MV RX4 51 M_X3_lengthOf 1 := ⟨mc_X3_lengthOf, jv_w (jv_tb 695 (by decide +kernel)) rfl, jv_w (jv_tb 456 (by decide +kernel)) rfl, jv_w (jv_tb 457 (by decide +kernel)) rfl⟩
theorem lV_X4_58 : jv_MV RX4 58 M_X2_ofNode 1 := ⟨mc_X2_ofNode, jv_w (jv_tb 697 (by decide +kernel)) rfl, jv_w (jv_tb 526 (by decide +kernel)) rfl, jv_w (jv_tb 527 (by decide +kernel)) rfl⟩
theorem lV_X5_48 : jv_MV RX5 48 M_X5_turnPage 0 := ⟨mc_X5_turnPage, jv_w (jv_tb 578 (by decide +kernel)) rfl, jv_w (jv_tb 580 (by decide +kernel)) rfl, jv_w (List.mem_append_left _ (List.mem_of_getElem? (i := 8) (by decide +kernel))) rfl⟩
theorem lV_X5_55 : jv_MV RX5 55 M_X2_measureTo 1 := ⟨mc_X2_measureTo, jv_w (jv_tb 582 (by decide +kernel)) rfl, jv_w (jv_tb 508 (by decide +kernel)) rfl, jv_w (jv_tb 509 (by decide +kernel)) rfl⟩
theorem lS_X5_59 : jv_MS RX5 59 M_X5_explore 5 := ⟨mc_X5_explore, jv_w (jv_tb 583 (by decide +kernel)) rfl, jv_w (jv_tb 584 (by decide +kernel)) rfl⟩
theorem lV_X5_63 : jv_MV RX5 63 M_X3_outStart 1 := ⟨mc_X3_outStart, jv_w (jv_tb 586 (by decide +kernel)) rfl, jv_w (jv_tb 587 (by decide +kernel)) rfl, jv_w (jv_tb 588 (by decide +kernel)) rfl⟩
theorem lV_X5_69 : jv_MV RX5 69 M_X3_outEnd 1 := ⟨mc_X3_outEnd, jv_w (jv_tb 590 (by decide +kernel)) rfl, jv_w (jv_tb 591 (by decide +kernel)) rfl, jv_w (jv_tb 592 (by decide +kernel)) rfl⟩
theorem lV_X5_72 : jv_MV RX5 72 M_X3_outEdge 1 := ⟨mc_X3_outEdge, jv_w (jv_tb 594 (by decide +kernel)) rfl, jv_w (jv_tb 520 (by decide +kernel)) rfl, jv_w (jv_tb 521 (by decide +kernel)) rfl⟩
theorem lV_X5_75 : jv_MV RX5 75 M_X3_headOf 1 := ⟨mc_X3_headOf, jv_w (jv_tb 595 (by decide +kernel)) rfl, jv_w (jv_tb 382 (by decide +kernel)) rfl, jv_w (jv_tb 383 (by decide +kernel)) rfl⟩
theorem lV_X5_78 : jv_MV RX5 78 M_X3_lengthOf 1 := ⟨mc_X3_lengthOf, jv_w (jv_tb 596 (by decide +kernel)) rfl, jv_w (jv_tb 456 (by decide +kernel)) rfl, jv_w (jv_tb 457 (by decide +kernel)) rfl⟩
theorem lS_X5_81 : jv_MS RX5 81 M_X5_ofLength 1 := ⟨mc_X5_ofLength, jv_w (jv_tb 597 (by decide +kernel)) rfl, jv_w (jv_tb 598 (by decide +kernel)) rfl⟩
theorem lS_X5_85 : jv_MS RX5 85 M_X5_slotShift 1 := ⟨mc_X5_slotShift, jv_w (jv_tb 600 (by decide +kernel)) rfl, jv_w (jv_tb 601 (by decide +kernel)) rfl⟩
theorem lV_X5_88 : jv_MV RX5 88 M_X5_keep 1 := ⟨mc_X5_keep, jv_w (jv_tb 603 (by decide +kernel)) rfl, jv_w (jv_tb 605 (by decide +kernel)) rfl, jv_w (List.mem_append_left _ (List.mem_of_getElem? (i := 9) (by decide +kernel))) rfl⟩
theorem lV_X5_96 : jv_MV RX5 96 M_X5_leadsOn 2 := ⟨mc_X5_leadsOn, jv_w (jv_tb 621 (by decide +kernel)) rfl, jv_w (jv_tb 623 (by decide +kernel)) rfl, jv_w (List.mem_append_left _ (List.mem_of_getElem? (i := 11) (by decide +kernel))) rfl⟩
theorem lV_X5_100 : jv_MV RX5 100 M_X2_ofNode 1 := ⟨mc_X2_ofNode, jv_w (jv_tb 625 (by decide +kernel)) rfl, jv_w (jv_tb 526 (by decide +kernel)) rfl, jv_w (jv_tb 527 (by decide +kernel)) rfl⟩
theorem lV_X5_104 : jv_MV RX5 104 M_X5_fits 1 := ⟨mc_X5_fits, jv_w (jv_tb 607 (by decide +kernel)) rfl, jv_w (jv_tb 609 (by decide +kernel)) rfl, jv_w (List.mem_append_left _ (List.mem_of_getElem? (i := 10) (by decide +kernel))) rfl⟩
theorem lS_X5_108 : jv_MS RX5 108 M_J9_min_7cf53 2 := ⟨mc_J9_min_7cf53, jv_w (jv_tb 614 (by decide +kernel)) rfl, jv_w (jv_tb 615 (by decide +kernel)) rfl⟩
theorem lV_X5_120 : jv_MV RX5 120 M_X5_currentEdge 1 := ⟨mc_X5_currentEdge, jv_w (jv_tb 658 (by decide +kernel)) rfl, jv_w (jv_tb 659 (by decide +kernel)) rfl, jv_w (jv_tb 660 (by decide +kernel)) rfl⟩
theorem lS_X6_41 : jv_MS RX6 41 M_J7_fill_53178 2 := ⟨mc_J7_fill_53178, jv_w (jv_tb 709 (by decide +kernel)) rfl, jv_w (jv_tb 361 (by decide +kernel)) rfl⟩
theorem lV_X6_47 : jv_MV RX6 47 M_X6_list 5 := ⟨mc_X6_list, jv_w (jv_tb 710 (by decide +kernel)) rfl, jv_w (jv_tb 712 (by decide +kernel)) rfl, jv_w (List.mem_append_left _ (List.mem_of_getElem? (i := 12) (by decide +kernel))) rfl⟩
theorem lV_X6_55 : jv_MV RX6 55 M_X6_shortestEdge 0 := ⟨mc_X6_shortestEdge, jv_w (jv_tb 735 (by decide +kernel)) rfl, jv_w (jv_tb 737 (by decide +kernel)) rfl, jv_w (List.mem_append_left _ (List.mem_of_getElem? (i := 13) (by decide +kernel))) rfl⟩
theorem lV_X6_59 : jv_MV RX6 59 M_X6_putAhead 1 := ⟨mc_X6_putAhead, jv_w (jv_tb 745 (by decide +kernel)) rfl, jv_w (jv_tb 747 (by decide +kernel)) rfl, jv_w (List.mem_append_left _ (List.mem_of_getElem? (i := 14) (by decide +kernel))) rfl⟩
theorem lV_X6_64 : jv_MV RX6 64 M_X3_usableTotal 0 := ⟨mc_X3_usableTotal, jv_w (jv_tb 740 (by decide +kernel)) rfl, jv_w (jv_tb 271 (by decide +kernel)) rfl, jv_w (jv_tb 272 (by decide +kernel)) rfl⟩
theorem lV_X6_69 : jv_MV RX6 69 M_X3_outEdge 1 := ⟨mc_X3_outEdge, jv_w (jv_tb 741 (by decide +kernel)) rfl, jv_w (jv_tb 520 (by decide +kernel)) rfl, jv_w (jv_tb 521 (by decide +kernel)) rfl⟩
theorem lV_X6_73 : jv_MV RX6 73 M_X3_headOf 1 := ⟨mc_X3_headOf, jv_w (jv_tb 742 (by decide +kernel)) rfl, jv_w (jv_tb 382 (by decide +kernel)) rfl, jv_w (jv_tb 383 (by decide +kernel)) rfl⟩
theorem lV_X6_76 : jv_MV RX6 76 M_X3_tailOf 1 := ⟨mc_X3_tailOf, jv_w (jv_tb 743 (by decide +kernel)) rfl, jv_w (jv_tb 371 (by decide +kernel)) rfl, jv_w (jv_tb 372 (by decide +kernel)) rfl⟩
theorem lV_X6_79 : jv_MV RX6 79 M_X3_lengthOf 1 := ⟨mc_X3_lengthOf, jv_w (jv_tb 744 (by decide +kernel)) rfl, jv_w (jv_tb 456 (by decide +kernel)) rfl, jv_w (jv_tb 457 (by decide +kernel)) rfl⟩
theorem lS_X6_82 : jv_MS RX6 82 M_X6_entry 2 := ⟨mc_X6_entry, jv_w (jv_tb 715 (by decide +kernel)) rfl, jv_w (jv_tb 716 (by decide +kernel)) rfl⟩
theorem lV_X6_90 : jv_MV RX6 90 M_X6_currentEntry 0 := ⟨mc_X6_currentEntry, jv_w (jv_tb 754 (by decide +kernel)) rfl, jv_w (jv_tb 756 (by decide +kernel)) rfl, jv_w (List.mem_append_left _ (List.mem_of_getElem? (i := 15) (by decide +kernel))) rfl⟩
theorem lV_X6_93 : jv_MV RX6 93 M_X6_currentSize 0 := ⟨mc_X6_currentSize, jv_w (jv_tb 787 (by decide +kernel)) rfl, jv_w (jv_tb 773 (by decide +kernel)) rfl, jv_w (jv_tb 774 (by decide +kernel)) rfl⟩
theorem lV_L_7 : jv_MV RL 7 M_X7_begin 1 := ⟨mc_X7_begin, jv_w (jv_tb 281 (by decide +kernel)) rfl, jv_w (jv_tb 282 (by decide +kernel)) rfl, jv_w (jv_tb 283 (by decide +kernel)) rfl⟩
theorem lV_L_15 : jv_MV RL 15 M_X7_addEdge 3 := ⟨mc_X7_addEdge, jv_w (jv_tb 393 (by decide +kernel)) rfl, jv_w (jv_tb 394 (by decide +kernel)) rfl, jv_w (jv_tb 395 (by decide +kernel)) rfl⟩
theorem lV_L_21 : jv_MV RL 21 M_X7_setLength 2 := ⟨mc_X7_setLength, jv_w (jv_tb 438 (by decide +kernel)) rfl, jv_w (jv_tb 439 (by decide +kernel)) rfl, jv_w (jv_tb 440 (by decide +kernel)) rfl⟩
theorem lV_L_25 : jv_MV RL 25 M_X7_toggleEdge 1 := ⟨mc_X7_toggleEdge, jv_w (jv_tb 462 (by decide +kernel)) rfl, jv_w (jv_tb 463 (by decide +kernel)) rfl, jv_w (jv_tb 464 (by decide +kernel)) rfl⟩
theorem lV_L_29 : jv_MV RL 29 M_X7_toggleNode 1 := ⟨mc_X7_toggleNode, jv_w (jv_tb 473 (by decide +kernel)) rfl, jv_w (jv_tb 474 (by decide +kernel)) rfl, jv_w (jv_tb 475 (by decide +kernel)) rfl⟩
theorem lV_L_32 : jv_MV RL 32 M_X7_toggleTurn 2 := ⟨mc_X7_toggleTurn, jv_w (jv_tb 484 (by decide +kernel)) rfl, jv_w (jv_tb 485 (by decide +kernel)) rfl, jv_w (jv_tb 486 (by decide +kernel)) rfl⟩
theorem lV_L_36 : jv_MV RL 36 M_X7_distance 2 := ⟨mc_X7_distance, jv_w (jv_tb 503 (by decide +kernel)) rfl, jv_w (jv_tb 504 (by decide +kernel)) rfl, jv_w (jv_tb 505 (by decide +kernel)) rfl⟩
theorem lV_L_41 : jv_MV RL 41 M_X7_startPaths 2 := ⟨mc_X7_startPaths, jv_w (jv_tb 555 (by decide +kernel)) rfl, jv_w (jv_tb 556 (by decide +kernel)) rfl, jv_w (jv_tb 557 (by decide +kernel)) rfl⟩
theorem lV_L_45 : jv_MV RL 45 M_X7_nextPath 0 := ⟨mc_X7_nextPath, jv_w (jv_tb 566 (by decide +kernel)) rfl, jv_w (jv_tb 567 (by decide +kernel)) rfl, jv_w (jv_tb 568 (by decide +kernel)) rfl⟩
theorem lV_L_49 : jv_MV RL 49 M_X7_pathsDrawn 0 := ⟨mc_X7_pathsDrawn, jv_w (jv_tb 635 (by decide +kernel)) rfl, jv_w (jv_tb 636 (by decide +kernel)) rfl, jv_w (jv_tb 637 (by decide +kernel)) rfl⟩
theorem lV_L_52 : jv_MV RL 52 M_X7_pathEdges 0 := ⟨mc_X7_pathEdges, jv_w (jv_tb 646 (by decide +kernel)) rfl, jv_w (jv_tb 647 (by decide +kernel)) rfl, jv_w (jv_tb 648 (by decide +kernel)) rfl⟩
theorem lV_L_55 : jv_MV RL 55 M_X7_pathEdge 1 := ⟨mc_X7_pathEdge, jv_w (jv_tb 666 (by decide +kernel)) rfl, jv_w (jv_tb 667 (by decide +kernel)) rfl, jv_w (jv_tb 668 (by decide +kernel)) rfl⟩
theorem lV_L_59 : jv_MV RL 59 M_X7_countPaths 3 := ⟨mc_X7_countPaths, jv_w (jv_tb 678 (by decide +kernel)) rfl, jv_w (jv_tb 679 (by decide +kernel)) rfl, jv_w (jv_tb 680 (by decide +kernel)) rfl⟩
theorem lV_L_62 : jv_MV RL 62 M_X7_startWalks 2 := ⟨mc_X7_startWalks, jv_w (jv_tb 701 (by decide +kernel)) rfl, jv_w (jv_tb 702 (by decide +kernel)) rfl, jv_w (jv_tb 703 (by decide +kernel)) rfl⟩
theorem lV_L_65 : jv_MV RL 65 M_X7_nextWalk 0 := ⟨mc_X7_nextWalk, jv_w (jv_tb 722 (by decide +kernel)) rfl, jv_w (jv_tb 723 (by decide +kernel)) rfl, jv_w (jv_tb 724 (by decide +kernel)) rfl⟩
theorem lV_L_68 : jv_MV RL 68 M_X7_walksDrawn 0 := ⟨mc_X7_walksDrawn, jv_w (jv_tb 761 (by decide +kernel)) rfl, jv_w (jv_tb 762 (by decide +kernel)) rfl, jv_w (jv_tb 763 (by decide +kernel)) rfl⟩
theorem lV_L_71 : jv_MV RL 71 M_X7_walkEdges 0 := ⟨mc_X7_walkEdges, jv_w (jv_tb 768 (by decide +kernel)) rfl, jv_w (jv_tb 769 (by decide +kernel)) rfl, jv_w (jv_tb 770 (by decide +kernel)) rfl⟩
theorem lV_L_74 : jv_MV RL 74 M_X7_walkEdge 1 := ⟨mc_X7_walkEdge, jv_w (jv_tb 779 (by decide +kernel)) rfl, jv_w (jv_tb 780 (by decide +kernel)) rfl, jv_w (jv_tb 781 (by decide +kernel)) rfl⟩
theorem lV_L_77 : jv_MV RL 77 M_X7_disjointPaths 3 := ⟨mc_X7_disjointPaths, jv_w (jv_tb 791 (by decide +kernel)) rfl, jv_w (jv_tb 792 (by decide +kernel)) rfl, jv_w (jv_tb 793 (by decide +kernel)) rfl⟩
theorem lV_L_81 : jv_MV RL 81 M_X7_disjointLength 4 := ⟨mc_X7_disjointLength, jv_w (jv_tb 841 (by decide +kernel)) rfl, jv_w (jv_tb 842 (by decide +kernel)) rfl, jv_w (jv_tb 843 (by decide +kernel)) rfl⟩
theorem lV_L_85 : jv_MV RL 85 M_X7_allowedLength 2 := ⟨mc_X7_allowedLength, jv_w (jv_tb 852 (by decide +kernel)) rfl, jv_w (jv_tb 853 (by decide +kernel)) rfl, jv_w (jv_tb 854 (by decide +kernel)) rfl⟩
theorem lV_L_88 : jv_MV RL 88 M_X7_allowedEdges 2 := ⟨mc_X7_allowedEdges, jv_w (jv_tb 890 (by decide +kernel)) rfl, jv_w (jv_tb 891 (by decide +kernel)) rfl, jv_w (jv_tb 892 (by decide +kernel)) rfl⟩
theorem lV_L_91 : jv_MV RL 91 M_X7_allowedEdge 3 := ⟨mc_X7_allowedEdge, jv_w (jv_tb 901 (by decide +kernel)) rfl, jv_w (jv_tb 902 (by decide +kernel)) rfl, jv_w (jv_tb 903 (by decide +kernel)) rfl⟩
theorem lV_L_103 : jv_MV RL 103 M_X8_begin 1 := ⟨mc_X8_begin, jv_w (jv_tb 1053 (by decide +kernel)) rfl, jv_w (jv_tb 1054 (by decide +kernel)) rfl, jv_w (jv_tb 1055 (by decide +kernel)) rfl⟩
theorem lV_L_104 : jv_MV RL 104 M_X8_thrown 0 := ⟨mc_X8_thrown, jv_w (jv_tb 1049 (by decide +kernel)) rfl, jv_w (jv_tb 1050 (by decide +kernel)) rfl, jv_w (jv_tb 1051 (by decide +kernel)) rfl⟩
theorem lV_L_110 : jv_MV RL 110 M_X8_addEdge 3 := ⟨mc_X8_addEdge, jv_w (jv_tb 1068 (by decide +kernel)) rfl, jv_w (jv_tb 1069 (by decide +kernel)) rfl, jv_w (jv_tb 1070 (by decide +kernel)) rfl⟩
theorem lV_L_114 : jv_MV RL 114 M_X8_setLength 2 := ⟨mc_X8_setLength, jv_w (jv_tb 1084 (by decide +kernel)) rfl, jv_w (jv_tb 1085 (by decide +kernel)) rfl, jv_w (jv_tb 1086 (by decide +kernel)) rfl⟩
theorem lV_L_118 : jv_MV RL 118 M_X8_toggleEdge 1 := ⟨mc_X8_toggleEdge, jv_w (jv_tb 1092 (by decide +kernel)) rfl, jv_w (jv_tb 1093 (by decide +kernel)) rfl, jv_w (jv_tb 1094 (by decide +kernel)) rfl⟩
theorem lV_L_121 : jv_MV RL 121 M_X8_toggleNode 1 := ⟨mc_X8_toggleNode, jv_w (jv_tb 1096 (by decide +kernel)) rfl, jv_w (jv_tb 1097 (by decide +kernel)) rfl, jv_w (jv_tb 1098 (by decide +kernel)) rfl⟩
theorem lV_L_124 : jv_MV RL 124 M_X8_toggleTurn 2 := ⟨mc_X8_toggleTurn, jv_w (jv_tb 1100 (by decide +kernel)) rfl, jv_w (jv_tb 1101 (by decide +kernel)) rfl, jv_w (jv_tb 1102 (by decide +kernel)) rfl⟩
theorem lV_L_125 : jv_MV RL 125 M_X7_nodes 0 := ⟨mc_X7_nodes, jv_w (jv_tb 250 (by decide +kernel)) rfl, jv_w (jv_tb 251 (by decide +kernel)) rfl, jv_w (jv_tb 252 (by decide +kernel)) rfl⟩
theorem lV_L_128 : jv_MV RL 128 M_X8_nodes 0 := ⟨mc_X8_nodes, jv_w (jv_tb 1104 (by decide +kernel)) rfl, jv_w (jv_tb 1105 (by decide +kernel)) rfl, jv_w (jv_tb 1106 (by decide +kernel)) rfl⟩
theorem lV_L_129 : jv_MV RL 129 M_X7_edges 0 := ⟨mc_X7_edges, jv_w (jv_tb 258 (by decide +kernel)) rfl, jv_w (jv_tb 259 (by decide +kernel)) rfl, jv_w (jv_tb 260 (by decide +kernel)) rfl⟩
theorem lV_L_132 : jv_MV RL 132 M_X8_edges 0 := ⟨mc_X8_edges, jv_w (jv_tb 1108 (by decide +kernel)) rfl, jv_w (jv_tb 1109 (by decide +kernel)) rfl, jv_w (jv_tb 1110 (by decide +kernel)) rfl⟩
theorem lV_L_133 : jv_MV RL 133 M_X7_usableEdges 0 := ⟨mc_X7_usableEdges, jv_w (jv_tb 266 (by decide +kernel)) rfl, jv_w (jv_tb 267 (by decide +kernel)) rfl, jv_w (jv_tb 268 (by decide +kernel)) rfl⟩
theorem lV_L_136 : jv_MV RL 136 M_X8_usableEdges 0 := ⟨mc_X8_usableEdges, jv_w (jv_tb 1112 (by decide +kernel)) rfl, jv_w (jv_tb 1113 (by decide +kernel)) rfl, jv_w (jv_tb 1114 (by decide +kernel)) rfl⟩
theorem lV_L_139 : jv_MV RL 139 M_X8_distance 2 := ⟨mc_X8_distance, jv_w (jv_tb 1120 (by decide +kernel)) rfl, jv_w (jv_tb 1121 (by decide +kernel)) rfl, jv_w (jv_tb 1122 (by decide +kernel)) rfl⟩
theorem lV_L_143 : jv_MV RL 143 M_X8_startPaths 2 := ⟨mc_X8_startPaths, jv_w (jv_tb 1129 (by decide +kernel)) rfl, jv_w (jv_tb 1130 (by decide +kernel)) rfl, jv_w (jv_tb 1131 (by decide +kernel)) rfl⟩
theorem lV_L_147 : jv_MV RL 147 M_X8_nextPath 0 := ⟨mc_X8_nextPath, jv_w (jv_tb 1133 (by decide +kernel)) rfl, jv_w (jv_tb 1134 (by decide +kernel)) rfl, jv_w (jv_tb 1135 (by decide +kernel)) rfl⟩
theorem lV_L_150 : jv_MV RL 150 M_X8_pathsDrawn 0 := ⟨mc_X8_pathsDrawn, jv_w (jv_tb 1153 (by decide +kernel)) rfl, jv_w (jv_tb 1154 (by decide +kernel)) rfl, jv_w (jv_tb 1155 (by decide +kernel)) rfl⟩
theorem lV_L_153 : jv_MV RL 153 M_X8_pathEdges 0 := ⟨mc_X8_pathEdges, jv_w (jv_tb 1157 (by decide +kernel)) rfl, jv_w (jv_tb 1158 (by decide +kernel)) rfl, jv_w (jv_tb 1159 (by decide +kernel)) rfl⟩
theorem lV_L_156 : jv_MV RL 156 M_X8_pathEdge 1 := ⟨mc_X8_pathEdge, jv_w (jv_tb 1161 (by decide +kernel)) rfl, jv_w (jv_tb 1162 (by decide +kernel)) rfl, jv_w (jv_tb 1163 (by decide +kernel)) rfl⟩
theorem lV_L_159 : jv_MV RL 159 M_X8_countPaths 3 := ⟨mc_X8_countPaths, jv_w (jv_tb 1165 (by decide +kernel)) rfl, jv_w (jv_tb 1166 (by decide +kernel)) rfl, jv_w (jv_tb 1167 (by decide +kernel)) rfl⟩
theorem lV_L_162 : jv_MV RL 162 M_X8_startWalks 2 := ⟨mc_X8_startWalks, jv_w (jv_tb 1170 (by decide +kernel)) rfl, jv_w (jv_tb 1171 (by decide +kernel)) rfl, jv_w (jv_tb 1172 (by decide +kernel)) rfl⟩
theorem lV_L_165 : jv_MV RL 165 M_X8_nextWalk 0 := ⟨mc_X8_nextWalk, jv_w (jv_tb 1182 (by decide +kernel)) rfl, jv_w (jv_tb 1183 (by decide +kernel)) rfl, jv_w (jv_tb 1184 (by decide +kernel)) rfl⟩
theorem lV_L_168 : jv_MV RL 168 M_X8_walksDrawn 0 := ⟨mc_X8_walksDrawn, jv_w (jv_tb 1198 (by decide +kernel)) rfl, jv_w (jv_tb 1199 (by decide +kernel)) rfl, jv_w (jv_tb 1200 (by decide +kernel)) rfl⟩
theorem lV_L_171 : jv_MV RL 171 M_X8_walkEdges 0 := ⟨mc_X8_walkEdges, jv_w (jv_tb 1202 (by decide +kernel)) rfl, jv_w (jv_tb 1203 (by decide +kernel)) rfl, jv_w (jv_tb 1204 (by decide +kernel)) rfl⟩
theorem lV_L_174 : jv_MV RL 174 M_X8_walkEdge 1 := ⟨mc_X8_walkEdge, jv_w (jv_tb 1206 (by decide +kernel)) rfl, jv_w (jv_tb 1207 (by decide +kernel)) rfl, jv_w (jv_tb 1208 (by decide +kernel)) rfl⟩
theorem lV_L_178 : jv_MV RL 178 M_X8_disjointPaths 3 := ⟨mc_X8_disjointPaths, jv_w (jv_tb 1210 (by decide +kernel)) rfl, jv_w (jv_tb 1211 (by decide +kernel)) rfl, jv_w (jv_tb 1212 (by decide +kernel)) rfl⟩
theorem lV_L_182 : jv_MV RL 182 M_X8_disjointLength 4 := ⟨mc_X8_disjointLength, jv_w (jv_tb 1230 (by decide +kernel)) rfl, jv_w (jv_tb 1231 (by decide +kernel)) rfl, jv_w (jv_tb 1232 (by decide +kernel)) rfl⟩
theorem lV_L_185 : jv_MV RL 185 M_X8_allowedLength 2 := ⟨mc_X8_allowedLength, jv_w (jv_tb 1238 (by decide +kernel)) rfl, jv_w (jv_tb 1239 (by decide +kernel)) rfl, jv_w (jv_tb 1240 (by decide +kernel)) rfl⟩
theorem lV_L_188 : jv_MV RL 188 M_X8_allowedEdges 2 := ⟨mc_X8_allowedEdges, jv_w (jv_tb 1262 (by decide +kernel)) rfl, jv_w (jv_tb 1263 (by decide +kernel)) rfl, jv_w (jv_tb 1264 (by decide +kernel)) rfl⟩
theorem lV_L_191 : jv_MV RL 191 M_X8_allowedEdge 3 := ⟨mc_X8_allowedEdge, jv_w (jv_tb 1266 (by decide +kernel)) rfl, jv_w (jv_tb 1267 (by decide +kernel)) rfl, jv_w (jv_tb 1268 (by decide +kernel)) rfl⟩
theorem lS_X8_93 : jv_MS RX8 93 M_X8_in 3 := ⟨mc_X8_in, jv_w (jv_tb 1057 (by decide +kernel)) rfl, jv_w (jv_tb 1058 (by decide +kernel)) rfl⟩
theorem lV_X8_97 : jv_MV RX8 97 M_X8_isNode 1 := ⟨mc_X8_isNode, jv_w (jv_tb 1080 (by decide +kernel)) rfl, jv_w (jv_tb 1082 (by decide +kernel)) rfl, jv_w (List.mem_append_left _ (List.mem_of_getElem? (i := 30) (by decide +kernel))) rfl⟩
theorem lV_X8_101 : jv_MV RX8 101 M_X8_areNodes 2 := ⟨mc_X8_areNodes, jv_w (jv_tb 1076 (by decide +kernel)) rfl, jv_w (jv_tb 1078 (by decide +kernel)) rfl, jv_w (List.mem_append_left _ (List.mem_of_getElem? (i := 29) (by decide +kernel))) rfl⟩
theorem lV_X8_115 : jv_MV RX8 115 M_X8_holds 1 := ⟨mc_X8_holds, jv_w (jv_tb 1060 (by decide +kernel)) rfl, jv_w (jv_tb 1062 (by decide +kernel)) rfl, jv_w (List.mem_append_left _ (List.mem_of_getElem? (i := 26) (by decide +kernel))) rfl⟩
theorem lV_X8_118 : jv_MV RX8 118 M_X8_isChanged 0 := ⟨mc_X8_isChanged, jv_w (jv_tb 1064 (by decide +kernel)) rfl, jv_w (jv_tb 1066 (by decide +kernel)) rfl, jv_w (List.mem_append_left _ (List.mem_of_getElem? (i := 27) (by decide +kernel))) rfl⟩
theorem lV_X8_121 : jv_MV RX8 121 M_X8_areTwo 2 := ⟨mc_X8_areTwo, jv_w (jv_tb 1072 (by decide +kernel)) rfl, jv_w (jv_tb 1074 (by decide +kernel)) rfl, jv_w (List.mem_append_left _ (List.mem_of_getElem? (i := 28) (by decide +kernel))) rfl⟩
theorem lV_X8_124 : jv_MV RX8 124 M_X8_isEdge 1 := ⟨mc_X8_isEdge, jv_w (jv_tb 1088 (by decide +kernel)) rfl, jv_w (jv_tb 1090 (by decide +kernel)) rfl, jv_w (List.mem_append_left _ (List.mem_of_getElem? (i := 31) (by decide +kernel))) rfl⟩
theorem lV_X8_127 : jv_MV RX8 127 M_X8_isUsable 1 := ⟨mc_X8_isUsable, jv_w (jv_tb 1116 (by decide +kernel)) rfl, jv_w (jv_tb 1118 (by decide +kernel)) rfl, jv_w (List.mem_append_left _ (List.mem_of_getElem? (i := 32) (by decide +kernel))) rfl⟩
theorem lV_X8_131 : jv_MV RX8 131 M_X8_shortest 2 := ⟨mc_X8_shortest, jv_w (jv_tb 1124 (by decide +kernel)) rfl, jv_w (jv_tb 1126 (by decide +kernel)) rfl, jv_w (List.mem_append_left _ (List.mem_of_getElem? (i := 33) (by decide +kernel))) rfl⟩
theorem lV_X8_144 : jv_MV RX8 144 M_X8_isBehind 1 := ⟨mc_X8_isBehind, jv_w (jv_tb 1149 (by decide +kernel)) rfl, jv_w (jv_tb 1151 (by decide +kernel)) rfl, jv_w (List.mem_append_left _ (List.mem_of_getElem? (i := 37) (by decide +kernel))) rfl⟩
theorem lV_X8_153 : jv_MV RX8 153 M_X8_goesOn 3 := ⟨mc_X8_goesOn, jv_w (jv_tb 1141 (by decide +kernel)) rfl, jv_w (jv_tb 1143 (by decide +kernel)) rfl, jv_w (List.mem_append_left _ (List.mem_of_getElem? (i := 35) (by decide +kernel))) rfl⟩
theorem lV_X8_156 : jv_MV RX8 156 M_X8_meets 2 := ⟨mc_X8_meets, jv_w (jv_tb 1145 (by decide +kernel)) rfl, jv_w (jv_tb 1147 (by decide +kernel)) rfl, jv_w (List.mem_append_left _ (List.mem_of_getElem? (i := 36) (by decide +kernel))) rfl⟩
theorem lV_X8_166 : jv_MV RX8 166 M_X8_goesAlong 4 := ⟨mc_X8_goesAlong, jv_w (jv_tb 1137 (by decide +kernel)) rfl, jv_w (jv_tb 1139 (by decide +kernel)) rfl, jv_w (List.mem_append_left _ (List.mem_of_getElem? (i := 34) (by decide +kernel))) rfl⟩
theorem lV_X8_174 : jv_MV RX8 174 M_X8_waitsAt 2 := ⟨mc_X8_waitsAt, jv_w (jv_tb 1178 (by decide +kernel)) rfl, jv_w (jv_tb 1180 (by decide +kernel)) rfl, jv_w (List.mem_append_left _ (List.mem_of_getElem? (i := 39) (by decide +kernel))) rfl⟩
theorem lV_X8_189 : jv_MV RX8 189 M_X8_laysFirsts 1 := ⟨mc_X8_laysFirsts, jv_w (jv_tb 1174 (by decide +kernel)) rfl, jv_w (jv_tb 1176 (by decide +kernel)) rfl, jv_w (List.mem_append_left _ (List.mem_of_getElem? (i := 38) (by decide +kernel))) rfl⟩
theorem lV_X8_193 : jv_MV RX8 193 M_X8_leads 3 := ⟨mc_X8_leads, jv_w (jv_tb 1190 (by decide +kernel)) rfl, jv_w (jv_tb 1192 (by decide +kernel)) rfl, jv_w (List.mem_append_left _ (List.mem_of_getElem? (i := 41) (by decide +kernel))) rfl⟩
theorem lV_X8_197 : jv_MV RX8 197 M_X8_alike 2 := ⟨mc_X8_alike, jv_w (jv_tb 1194 (by decide +kernel)) rfl, jv_w (jv_tb 1196 (by decide +kernel)) rfl, jv_w (List.mem_append_left _ (List.mem_of_getElem? (i := 42) (by decide +kernel))) rfl⟩
theorem lV_X8_200 : jv_MV RX8 200 M_X8_laysWalk 2 := ⟨mc_X8_laysWalk, jv_w (jv_tb 1186 (by decide +kernel)) rfl, jv_w (jv_tb 1188 (by decide +kernel)) rfl, jv_w (List.mem_append_left _ (List.mem_of_getElem? (i := 40) (by decide +kernel))) rfl⟩
theorem lV_X8_206 : jv_MV RX8 206 M_X8_arc 3 := ⟨mc_X8_arc, jv_w (jv_tb 1222 (by decide +kernel)) rfl, jv_w (jv_tb 1224 (by decide +kernel)) rfl, jv_w (List.mem_append_left _ (List.mem_of_getElem? (i := 45) (by decide +kernel))) rfl⟩
theorem lV_X8_210 : jv_MV RX8 210 M_X8_laysArcs 3 := ⟨mc_X8_laysArcs, jv_w (jv_tb 1218 (by decide +kernel)) rfl, jv_w (jv_tb 1220 (by decide +kernel)) rfl, jv_w (List.mem_append_left _ (List.mem_of_getElem? (i := 44) (by decide +kernel))) rfl⟩
theorem lV_X8_214 : jv_MV RX8 214 M_X8_flows 2 := ⟨mc_X8_flows, jv_w (jv_tb 1226 (by decide +kernel)) rfl, jv_w (jv_tb 1228 (by decide +kernel)) rfl, jv_w (List.mem_append_left _ (List.mem_of_getElem? (i := 46) (by decide +kernel))) rfl⟩
theorem lV_X8_217 : jv_MV RX8 217 M_X8_many 3 := ⟨mc_X8_many, jv_w (jv_tb 1214 (by decide +kernel)) rfl, jv_w (jv_tb 1216 (by decide +kernel)) rfl, jv_w (List.mem_append_left _ (List.mem_of_getElem? (i := 43) (by decide +kernel))) rfl⟩
theorem lV_X8_221 : jv_MV RX8 221 M_X8_together 4 := ⟨mc_X8_together, jv_w (jv_tb 1234 (by decide +kernel)) rfl, jv_w (jv_tb 1236 (by decide +kernel)) rfl, jv_w (List.mem_append_left _ (List.mem_of_getElem? (i := 47) (by decide +kernel))) rfl⟩
theorem lV_X8_224 : jv_MV RX8 224 M_X8_mayFollow 2 := ⟨mc_X8_mayFollow, jv_w (jv_tb 1254 (by decide +kernel)) rfl, jv_w (jv_tb 1256 (by decide +kernel)) rfl, jv_w (List.mem_append_left _ (List.mem_of_getElem? (i := 51) (by decide +kernel))) rfl⟩
theorem lV_X8_230 : jv_MV RX8 230 M_X8_laysRests 1 := ⟨mc_X8_laysRests, jv_w (jv_tb 1250 (by decide +kernel)) rfl, jv_w (jv_tb 1252 (by decide +kernel)) rfl, jv_w (List.mem_append_left _ (List.mem_of_getElem? (i := 50) (by decide +kernel))) rfl⟩
theorem lV_X8_233 : jv_MV RX8 233 M_X8_nextOf 1 := ⟨mc_X8_nextOf, jv_w (jv_tb 1258 (by decide +kernel)) rfl, jv_w (jv_tb 1260 (by decide +kernel)) rfl, jv_w (List.mem_append_left _ (List.mem_of_getElem? (i := 52) (by decide +kernel))) rfl⟩
theorem lV_X8_237 : jv_MV RX8 237 M_X8_laysAllowed 2 := ⟨mc_X8_laysAllowed, jv_w (jv_tb 1246 (by decide +kernel)) rfl, jv_w (jv_tb 1248 (by decide +kernel)) rfl, jv_w (List.mem_append_left _ (List.mem_of_getElem? (i := 49) (by decide +kernel))) rfl⟩
theorem lV_X8_240 : jv_MV RX8 240 M_X8_errorOfAllowed 2 := ⟨mc_X8_errorOfAllowed, jv_w (jv_tb 1242 (by decide +kernel)) rfl, jv_w (jv_tb 1244 (by decide +kernel)) rfl, jv_w (List.mem_append_left _ (List.mem_of_getElem? (i := 48) (by decide +kernel))) rfl⟩
theorem lN_X0_38 : jv_MN RX0 38 "Pathparade" M_X7_put 3 := ⟨mc_X7_put, jv_tb 886 (by decide +kernel), jv_w (jv_tb 368 (by decide +kernel)) rfl⟩
theorem lN_X0_68 : jv_MN RX0 68 "Pathparade" M_X7_at 2 := ⟨mc_X7_at, jv_tb 884 (by decide +kernel), jv_w (jv_tb 275 (by decide +kernel)) rfl⟩
theorem lN_X1_87 : jv_MN RX1 87 "Pathparade" M_X7_put 3 := ⟨mc_X7_put, jv_tb 818 (by decide +kernel), jv_w (jv_tb 368 (by decide +kernel)) rfl⟩
theorem lN_X1_95 : jv_MN RX1 95 "Pathparade" M_X7_at 2 := ⟨mc_X7_at, jv_tb 829 (by decide +kernel), jv_w (jv_tb 275 (by decide +kernel)) rfl⟩
theorem lN_X2_26 : jv_MN RX2 26 "Pathparade" M_X7_put 3 := ⟨mc_X7_put, jv_tb 513 (by decide +kernel), jv_w (jv_tb 368 (by decide +kernel)) rfl⟩
theorem lN_X2_56 : jv_MN RX2 56 "Pathparade" M_X7_at 2 := ⟨mc_X7_at, jv_tb 529 (by decide +kernel), jv_w (jv_tb 275 (by decide +kernel)) rfl⟩
theorem lN_X3_52 : jv_MN RX3 52 "Pathparade" M_X7_put 3 := ⟨mc_X7_put, jv_tb 367 (by decide +kernel), jv_w (jv_tb 368 (by decide +kernel)) rfl⟩
theorem lN_X3_60 : jv_MN RX3 60 "Pathparade" M_X7_hasBit 2 := ⟨mc_X7_hasBit, jv_tb 378 (by decide +kernel), jv_w (jv_tb 379 (by decide +kernel)) rfl⟩
theorem lN_X3_64 : jv_MN RX3 64 "Pathparade" M_X7_at 2 := ⟨mc_X7_at, jv_tb 274 (by decide +kernel), jv_w (jv_tb 275 (by decide +kernel)) rfl⟩
theorem lN_X4_54 : jv_MN RX4 54 "Pathparade" M_X7_hasBit 2 := ⟨mc_X7_hasBit, jv_tb 696 (by decide +kernel), jv_w (jv_tb 379 (by decide +kernel)) rfl⟩
theorem lN_X5_51 : jv_MN RX5 51 "Pathparade" M_X7_at_ 2 := ⟨mc_X7_at_, jv_tb 611 (by decide +kernel), jv_w (jv_tb 612 (by decide +kernel)) rfl⟩
theorem lN_X5_92 : jv_MN RX5 92 "Pathparade" M_X7_hasBit 2 := ⟨mc_X7_hasBit, jv_tb 620 (by decide +kernel), jv_w (jv_tb 379 (by decide +kernel)) rfl⟩
theorem lN_X5_114 : jv_MN RX5 114 "Pathparade" M_X7_put_ 3 := ⟨mc_X7_put_, jv_tb 617 (by decide +kernel), jv_w (jv_tb 618 (by decide +kernel)) rfl⟩
theorem lN_X6_51 : jv_MN RX6 51 "Pathparade" M_X7_at 2 := ⟨mc_X7_at, jv_tb 714 (by decide +kernel), jv_w (jv_tb 275 (by decide +kernel)) rfl⟩
theorem lN_X6_86 : jv_MN RX6 86 "Pathparade" M_X7_put 3 := ⟨mc_X7_put, jv_tb 718 (by decide +kernel), jv_w (jv_tb 368 (by decide +kernel)) rfl⟩
theorem lC_X7_179 : Cond.constant RX7 179 100000 ∈ jv_WS := jv_w (jv_tb 682 (by decide +kernel)) rfl
theorem lC_X7_233 : Cond.constant RX7 233 1000000000 ∈ jv_WS := jv_w (jv_tb 535 (by decide +kernel)) rfl
theorem lC_X0_47 : Cond.constant RX0 47 1000000000 ∈ jv_WS := jv_w (jv_tb 864 (by decide +kernel)) rfl
theorem lC_X1_45 : Cond.constant RX1 45 1000000000 ∈ jv_WS := jv_w (jv_tb 824 (by decide +kernel)) rfl
theorem lC_X2_19 : Cond.constant RX2 19 1000000000 ∈ jv_WS := jv_w (jv_tb 511 (by decide +kernel)) rfl
theorem lC_X5_103 : Cond.constant RX5 103 1000000000 ∈ jv_WS := jv_w (jv_tb 626 (by decide +kernel)) rfl
theorem lC_X6_63 : Cond.constant RX6 63 1000000000 ∈ jv_WS := jv_w (jv_tb 739 (by decide +kernel)) rfl
theorem lC_X8_130 : Cond.constant RX8 130 1000000000 ∈ jv_WS := jv_w (jv_tb 1128 (by decide +kernel)) rfl
theorem lC_X8_170 : Cond.constant RX8 170 100000 ∈ jv_WS := jv_w (jv_tb 1169 (by decide +kernel)) rfl
theorem lC_X5_118 : Cond.constantLong RX5 118 31 ∈ jv_WS := jv_w (jv_tb 662 (by decide +kernel)) rfl
theorem lW_118 : ∀ w ∈ vx_atS RX7 118 "java/lang/IllegalArgumentException" ["java/lang/RuntimeException", "java/lang/Exception"], w ∈ lw_tbl ∧ (goodWord w || jv_nest w) = true := by decide +kernel
theorem lW_83 : ∀ w ∈ vx_atS RX7 83 "java/lang/IllegalStateException" ["java/lang/RuntimeException", "java/lang/Exception"], w ∈ lw_tbl ∧ (goodWord w || jv_nest w) = true := by decide +kernel
theorem lT_79_81_83 : jv_Ts "java/lang/IllegalStateException" "the network has all its edges" 79 81 83 := ⟨by decide +kernel, jv_w (jv_tb 415 (by decide +kernel)) rfl, jv_w (jv_tb 15 (by decide +kernel)) rfl, by decide +kernel, lW_83⟩
theorem lT_79_188_83 : jv_Ts "java/lang/IllegalStateException" "no more walks are drawn from one start" 79 188 83 := ⟨by decide +kernel, jv_w (jv_tb 415 (by decide +kernel)) rfl, jv_w (jv_tb 15 (by decide +kernel)) rfl, by decide +kernel, lW_83⟩
theorem lT_79_227_83 : jv_Ts "java/lang/IllegalStateException" "not started since the network was changed" 79 227 83 := ⟨by decide +kernel, jv_w (jv_tb 415 (by decide +kernel)) rfl, jv_w (jv_tb 15 (by decide +kernel)) rfl, by decide +kernel, lW_83⟩
theorem lT_114_116_118 : jv_Ts "java/lang/IllegalArgumentException" "the second edge does not begin where the first one ends" 114 116 118 := ⟨by decide +kernel, jv_w (jv_tb 288 (by decide +kernel)) rfl, jv_w (jv_tb 13 (by decide +kernel)) rfl, by decide +kernel, lW_118⟩
theorem lT_114_216_118 : jv_Ts "java/lang/IllegalArgumentException" "no such node" 114 216 118 := ⟨by decide +kernel, jv_w (jv_tb 288 (by decide +kernel)) rfl, jv_w (jv_tb 13 (by decide +kernel)) rfl, by decide +kernel, lW_118⟩
theorem lT_114_218_118 : jv_Ts "java/lang/IllegalArgumentException" "the nodes are the same" 114 218 118 := ⟨by decide +kernel, jv_w (jv_tb 288 (by decide +kernel)) rfl, jv_w (jv_tb 13 (by decide +kernel)) rfl, by decide +kernel, lW_118⟩
theorem lT_114_223_118 : jv_Ts "java/lang/IllegalArgumentException" "no such edge" 114 223 118 := ⟨by decide +kernel, jv_w (jv_tb 288 (by decide +kernel)) rfl, jv_w (jv_tb 13 (by decide +kernel)) rfl, by decide +kernel, lW_118⟩
theorem lT_114_225_118 : jv_Ts "java/lang/IllegalArgumentException" "a number is out of range" 114 225 118 := ⟨by decide +kernel, jv_w (jv_tb 288 (by decide +kernel)) rfl, jv_w (jv_tb 13 (by decide +kernel)) rfl, by decide +kernel, lW_118⟩
end
section
/-! ===== words of the functions that the methods are turned into; the leaves that take rows of any kind ===== -/
def jv_b (b : Bool) : Int32 := if b then 1 else 0
theorem jv_b0 {b : Bool} (h : jv_b b = 0) : ¬ b = true := by cases b <;> simp_all [jv_b]
theorem jv_b1 {b : Bool} (h : ¬ jv_b b = 0) : b = true := by cases b <;> simp_all [jv_b]
theorem jv_narb (b : Bool) : vp_nar .boolean (jv_b b) = jv_b b := by cases b <;> decide
theorem jv_narw (b : Bool) : narrow .boolean (.int (jv_b b)) = .int (jv_b b) := by cases b <;> decide
theorem jv_okZ (b : Bool) : jv_ok (some .boolean) (some (.int (jv_b b))) := ⟨_, rfl, jv_narw b⟩
theorem jv_okI (v : Int32) : jv_ok (some .int) (some (.int v)) := ⟨_, rfl, rfl⟩
theorem jv_okJ (v : Int64) : jv_ok (some .long) (some (.long v)) := rfl
theorem jv_okV : jv_ok none none := rfl
def jv_ob (x : Int32) : Option Bool := if x = 0 then some false else if x = 1 then some true else none
theorem jv_ob_eq {x : Int32} {q : Bool} (h : jv_ob x = some q) : x = jv_b q := by
  unfold jv_ob at h
  split at h
  · cases h; assumption
  · split at h
    · cases h; assumption
    · cases h
def jv_bd {α β : Type} (x : Option α) (f : α → Option β) : Option β := match x with
  | none => none
  | some a => f a
theorem jv_bd_some {α β : Type} {x : Option α} {f : α → Option β} {r : β} (h : jv_bd x f = some r) : ∃ q, x = some q ∧ f q = some r := by
  cases x with
  | none => cases h
  | some a => exact ⟨a, rfl, h⟩
def jv_lt {α β : Type} (x : α) (f : α → β) : β := f x
theorem jv_lt_eq {α β : Type} {x : α} {f : α → β} {r : β} (h : jv_lt x f = r) : ∃ q, x = q ∧ f q = r := ⟨x, rfl, h⟩
def jv_xe {α β : Type} (x : Except String α) (f : String → β) (g : α → β) : β := match x with
  | .error e => f e
  | .ok a => g a
theorem jv_xe_or {α β : Type} {x : Except String α} {f : String → β} {g : α → β} {r : β} (h : jv_xe x f g = r) : (∃ e, x = .error e ∧ f e = r) ∨ ∃ q, x = .ok q ∧ g q = r := by
  cases x with
  | error e => exact Or.inl ⟨e, rfl, h⟩
  | ok a => exact Or.inr ⟨a, rfl, h⟩
/-- an index in range -/
def jv_ck (i : Int32) (n : Nat) : Bool := decide (0 ≤ i.toInt) && decide (i.toInt < n)
theorem jv_ck_in {i : Int32} {n : Nat} (h : jv_ck i n = true) : vp_in i n := by
  simp only [jv_ck, Bool.and_eq_true, decide_eq_true_eq] at h
  exact vp_in_iff.mpr h
/-- a row read and written by way of a look at its index -/
def jv_rd {α : Type} (f : Nat → α) (n : Nat) (z : α) (p : Int32) : α := if p < 0 then z else if nI n ≤ p then z else f p.toNatClampNeg
def jv_wr (σ : jv_S) (k n : Nat) (p v : Int32) : jv_S := if p < 0 then σ else if nI n ≤ p then σ else jv_si σ k p.toNatClampNeg v
def jv_wrl (σ : jv_S) (k n : Nat) (p : Int32) (v : Int64) : jv_S := if p < 0 then σ else if nI n ≤ p then σ else jv_sl σ k p.toNatClampNeg v
def jv_fl (σ : jv_S) (k n : Nat) (v : Int32) : jv_S := (jv_u σ.1 k (fun j => if j < n then v else σ.1 k j), σ.2)
def jv_min (a b : Int32) : Int32 := if b < a then b else a
theorem jv_fuel_ex : ∃ n : Nat, 10000000 ≤ n := ⟨10000000, Nat.le_refl _⟩
noncomputable def jv_fuel : Nat := Classical.choose jv_fuel_ex
theorem jv_fuel_le : 10000000 ≤ jv_fuel := Classical.choose_spec jv_fuel_ex
/-- less known of the locals -/
def jv_fg : List (Option Value) → List Bool → List (Option Value)
  | x :: t, true :: m => x :: jv_fg t m
  | _ :: t, false :: m => none :: jv_fg t m
  | _, _ => []
theorem jv_fg_at : ∀ (L : List (Option Value)) (m : List Bool) (i : Nat) (v : Value), (jv_fg L m)[i]? = some (some v) → L[i]? = some (some v) := by
  intro L
  induction L with
  | nil => intro m i v h; simp [jv_fg] at h
  | cons x t ih =>
    intro m i v h
    cases m with
    | nil => simp [jv_fg] at h
    | cons b m =>
      cases b
      · cases i with
        | zero => simp [jv_fg] at h
        | succ i =>
          simp only [jv_fg, List.getElem?_cons_succ] at h ⊢
          exact ih m i v h
      · cases i with
        | zero =>
          simp only [jv_fg, List.getElem?_cons_zero] at h ⊢
          exact h
        | succ i =>
          simp only [jv_fg, List.getElem?_cons_succ] at h ⊢
          exact ih m i v h
theorem jv_weak {E : jv_E} {pc : Nat} {L L' : List (Option Value)} {st : List Value} {σ : jv_S} (h : ∀ (i : Nat) (v : Value), L'[i]? = some (some v) → L[i]? = some (some v)) (k : jv_V E pc L' st σ) : jv_V E pc L st σ := by
  obtain ⟨p, l, e, R, s, m, args, below, meth, c, cells, slots, Q, G⟩ := E
  intro H locs ls hP hS hl
  refine k H locs ls hP hS ⟨hl.1, hl.2.1, fun q hq => hl.2.2 q ?_⟩
  obtain ⟨i, v, rfl, hi⟩ := (jv_lst_mem L' 0 _).mp hq
  exact (jv_lst_mem L 0 _).mpr ⟨i, v, rfl, h i v hi⟩
theorem jv_forget {E : jv_E} {pc : Nat} {L : List (Option Value)} {st : List Value} {σ : jv_S} (m : List Bool) (k : jv_V E pc (jv_fg L m) st σ) : jv_V E pc L st σ := jv_weak (jv_fg_at L m) k
theorem jv_topI {E : jv_E} {pc : Nat} {L : List (Option Value)} {st : List Value} {σ : jv_S} {x y : Int32} (h : x = y) (k : jv_V E pc L (.int y :: st) σ) : jv_V E pc L (.int x :: st) σ := h ▸ k
theorem jv_in_of {x : Int32} {n : Nat} (hn : n < 2 ^ 31) (h0 : ¬ x < 0) (h : ¬ nI n ≤ x) : vp_in x n := by
  rcases pk_ix x hn with h1 | h1 | ⟨j, h1, rfl⟩
  · exact absurd h1 h0
  · exact absurd h1 h
  · exact vp_in_nI h1 hn
section JVLEAF
variable {G : jv_G} {l : Launch} {σ : jv_S} {k n : Nat}
theorem ok_X7_at {p r : Int32} (hn : n < 2 ^ 31) (hk : jv_os[k]? = some (.inr (0, n))) (h : jv_rd (σ.1 k) n 0 p = r) : jv_Cn G l 1 M_X7_at [.ref k, .int p] σ (some (.int r)) σ := by
  refine jv_of (L0 := [some (.ref k), some (.int p)]) (by decide +kernel) (Nat.le_of_ble_eq_true rfl) rfl (jv_okI _) (fun E e1 e2 hE hret => ?_)
  unfold jv_rd at h
  refine jv_iload_n (x := p) hE dX7_at_0 rfl 1 rfl rfl ?_
  refine jv_if_lt hE dX7_at_1 (tgt := 16) (by decide) rfl (fun c1 => ?_) (fun c1 => ?_)
  · rw [if_pos c1] at h
    cases h
    refine jv_iconst (v := 0) hE dX7_at_16 rfl (by decide) ?_
    exact hret _ _ dX7_at_17
  · rw [if_neg c1] at h
    refine jv_iload_n (x := p) hE dX7_at_4 rfl 1 rfl rfl ?_
    refine jv_aload_n (x := k) hE dX7_at_5 rfl 0 rfl rfl ?_
    refine jv_alen hE dX7_at_6 rfl hk (v := nI n) rfl ?_
    refine jv_icmp_ge hE dX7_at_7 (tgt := 16) (by decide) rfl (fun c2 => ?_) (fun c2 => ?_)
    · rw [if_pos c2] at h
      cases h
      refine jv_iconst (v := 0) hE dX7_at_16 rfl (by decide) ?_
      exact hret _ _ dX7_at_17
    · rw [if_neg c2] at h
      refine jv_aload_n (x := k) hE dX7_at_10 rfl 0 rfl rfl ?_
      refine jv_iload_n (x := p) hE dX7_at_11 rfl 1 rfl rfl ?_
      refine jv_iald hE dX7_at_12 rfl hk (jv_in_of hn c1 c2) ?_
      refine jv_goto hE dX7_at_13 (tgt := 17) (by decide) ?_
      rw [h]
      exact hret _ _ dX7_at_17
theorem ok_X7_at_ {p : Int32} {r : Int64} (hn : n < 2 ^ 31) (hk : jv_os[k]? = some (.inr (2, n))) (h : jv_rd (σ.2 k) n 0 p = r) : jv_Cn G l 1 M_X7_at_ [.ref k, .int p] σ (some (.long r)) σ := by
  refine jv_of (L0 := [some (.ref k), some (.int p)]) (by decide +kernel) (Nat.le_of_ble_eq_true rfl) rfl (jv_okJ _) (fun E e1 e2 hE hret => ?_)
  unfold jv_rd at h
  refine jv_iload_n (x := p) hE dX7_at__0 rfl 1 rfl rfl ?_
  refine jv_if_lt hE dX7_at__1 (tgt := 16) (by decide) rfl (fun c1 => ?_) (fun c1 => ?_)
  · rw [if_pos c1] at h
    cases h
    refine jv_lconst (v := 0) hE dX7_at__16 rfl (by decide) ?_
    exact hret _ _ dX7_at__17
  · rw [if_neg c1] at h
    refine jv_iload_n (x := p) hE dX7_at__4 rfl 1 rfl rfl ?_
    refine jv_aload_n (x := k) hE dX7_at__5 rfl 0 rfl rfl ?_
    refine jv_alenl hE dX7_at__6 rfl hk (v := nI n) rfl ?_
    refine jv_icmp_ge hE dX7_at__7 (tgt := 16) (by decide) rfl (fun c2 => ?_) (fun c2 => ?_)
    · rw [if_pos c2] at h
      cases h
      refine jv_lconst (v := 0) hE dX7_at__16 rfl (by decide) ?_
      exact hret _ _ dX7_at__17
    · rw [if_neg c2] at h
      refine jv_aload_n (x := k) hE dX7_at__10 rfl 0 rfl rfl ?_
      refine jv_iload_n (x := p) hE dX7_at__11 rfl 1 rfl rfl ?_
      refine jv_lald hE dX7_at__12 rfl hk (jv_in_of hn c1 c2) ?_
      refine jv_goto hE dX7_at__13 (tgt := 17) (by decide) ?_
      rw [h]
      exact hret _ _ dX7_at__17
theorem ok_X7_put {p v : Int32} {τ : jv_S} (hn : n < 2 ^ 31) (hk : jv_os[k]? = some (.inr (0, n))) (h : jv_wr σ k n p v = τ) : jv_Cn G l 1 M_X7_put [.ref k, .int p, .int v] σ none τ := by
  refine jv_of (L0 := [some (.ref k), some (.int p), some (.int v)]) (by decide +kernel) (Nat.le_of_ble_eq_true rfl) rfl jv_okV (fun E e1 e2 hE hret => ?_)
  unfold jv_wr at h
  refine jv_iload_n (x := p) hE dX7_put_0 rfl 1 rfl rfl ?_
  refine jv_if_lt hE dX7_put_1 (tgt := 14) (by decide) rfl (fun c1 => ?_) (fun c1 => ?_)
  · rw [if_pos c1] at h
    cases h
    exact hret _ _ dX7_put_14
  · rw [if_neg c1] at h
    refine jv_iload_n (x := p) hE dX7_put_4 rfl 1 rfl rfl ?_
    refine jv_aload_n (x := k) hE dX7_put_5 rfl 0 rfl rfl ?_
    refine jv_alen hE dX7_put_6 rfl hk (v := nI n) rfl ?_
    refine jv_icmp_ge hE dX7_put_7 (tgt := 14) (by decide) rfl (fun c2 => ?_) (fun c2 => ?_)
    · rw [if_pos c2] at h
      cases h
      exact hret _ _ dX7_put_14
    · rw [if_neg c2] at h
      refine jv_aload_n (x := k) hE dX7_put_10 rfl 0 rfl rfl ?_
      refine jv_iload_n (x := p) hE dX7_put_11 rfl 1 rfl rfl ?_
      refine jv_iload_n (x := v) hE dX7_put_12 rfl 2 rfl rfl ?_
      refine jv_iast hE dX7_put_13 rfl hk (jv_in_of hn c1 c2) ?_
      rw [h]
      exact hret _ _ dX7_put_14
theorem ok_X7_put_ {p : Int32} {v : Int64} {τ : jv_S} (hn : n < 2 ^ 31) (hk : jv_os[k]? = some (.inr (2, n))) (h : jv_wrl σ k n p v = τ) : jv_Cn G l 1 M_X7_put_ [.ref k, .int p, .long v] σ none τ := by
  refine jv_of (L0 := [some (.ref k), some (.int p), some (.long v), none]) (by decide +kernel) (Nat.le_of_ble_eq_true rfl) rfl jv_okV (fun E e1 e2 hE hret => ?_)
  unfold jv_wrl at h
  refine jv_iload_n (x := p) hE dX7_put__0 rfl 1 rfl rfl ?_
  refine jv_if_lt hE dX7_put__1 (tgt := 14) (by decide) rfl (fun c1 => ?_) (fun c1 => ?_)
  · rw [if_pos c1] at h
    cases h
    exact hret _ _ dX7_put__14
  · rw [if_neg c1] at h
    refine jv_iload_n (x := p) hE dX7_put__4 rfl 1 rfl rfl ?_
    refine jv_aload_n (x := k) hE dX7_put__5 rfl 0 rfl rfl ?_
    refine jv_alenl hE dX7_put__6 rfl hk (v := nI n) rfl ?_
    refine jv_icmp_ge hE dX7_put__7 (tgt := 14) (by decide) rfl (fun c2 => ?_) (fun c2 => ?_)
    · rw [if_pos c2] at h
      cases h
      exact hret _ _ dX7_put__14
    · rw [if_neg c2] at h
      refine jv_aload_n (x := k) hE dX7_put__10 rfl 0 rfl rfl ?_
      refine jv_iload_n (x := p) hE dX7_put__11 rfl 1 rfl rfl ?_
      refine jv_lload_n (x := v) hE dX7_put__12 rfl 2 rfl rfl ?_
      refine jv_last hE dX7_put__13 rfl hk (jv_in_of hn c1 c2) ?_
      rw [h]
      exact hret _ _ dX7_put__14
theorem jv_callMin {E : jv_E} {own : String} {cc : ByteArray} {nL d pc pc' index : Nat} {L : List (Option Value)} {st : List Value} {x y : Int32} (hc : jv_Cx E own cc nL d) (hd : decode cc pc = .ok (.invokestatic index, 3)) (hp : pc + 3 = pc') (hm : jv_MS own index M_J9_min_7cf53 2)
    (hroom : (st.map fun v => v.category).sum ≤ 8) (k : jv_V E pc' L (.int (jv_min x y) :: st) σ) : jv_V E pc L (.int y :: .int x :: st) σ := by
  subst hp
  obtain ⟨p, l, e, R, s, m, args, below, meth, c, cells, slots, Q, G⟩ := E
  obtain ⟨hx, hb, hml, hown, hts, hX, hZ, hD, hB, hR1, hR2, hR3, hR4⟩ := hc
  obtain ⟨⟨hm1, hm2, hm3, hm4⟩, hm5, hm6⟩ := hm
  intro H locs ls hP hS hl
  have h8 := jv_sum (G := G) hroom
  exact va_mmin (own := own) (index := index) hx hb hl.1.symm hown (hts _ hm5) (hts _ hm6) (hts _ hm2) (hts _ hm1) (by omega) (by omega) hR3 hR4 hd (k H locs ls hP hS hl)
/-- a row filled so far -/
def jv_flp (σ : jv_S) (k i : Nat) (v : Int32) : jv_S := (jv_u σ.1 k (fun j => if j < i then v else σ.1 k j), σ.2)
theorem jv_flp_s (σ : jv_S) (k i : Nat) (v : Int32) : jv_si (jv_flp σ k i v) k i v = jv_flp σ k (i + 1) v := by
  refine Prod.ext ?_ rfl
  funext k'
  by_cases e : k' = k
  · subst e
    simp only [jv_si, jv_flp, jv_u, if_true]
    funext j
    simp only [upd]
    by_cases h : j = i
    · simp [h]
    · have h2 : (j < i + 1) ↔ j < i := by omega
      simp [h, h2]
  · simp [jv_si, jv_flp, jv_u, e]
theorem jv_flp_0 (σ : jv_S) (k : Nat) (v : Int32) : jv_flp σ k 0 v = σ := by
  refine Prod.ext ?_ rfl
  funext k'
  by_cases e : k' = k
  · subst e; simp [jv_flp, jv_u]
  · simp [jv_flp, jv_u, e]
theorem lp_fill {v : Int32} (hn : n < 2 ^ 31) (hk : jv_os[k]? = some (.inr (0, n))) {E : jv_E} {τ : jv_S} (hE : jv_Cx E RJ7 cJ7_fill_53178 4 1) (hret : jv_Rt E cJ7_fill_53178 none (jv_flp σ k n v)) :
    ∀ m i, i + m = n → τ = jv_flp σ k i v → jv_V E 5 [some (.ref k), some (.int v), some (.int (nI i)), some (.int (nI n))] [] τ := by
  intro m
  induction m generalizing τ with
  | zero =>
    intro i hi ht
    have hi : i = n := hi
    subst hi; subst ht
    refine jv_iload_n (x := nI i) hE dJ7_fill_53178_5 rfl 2 rfl rfl ?_
    refine jv_iload_n (x := nI i) hE dJ7_fill_53178_6 rfl 3 rfl rfl ?_
    refine jv_icmp_ge hE dJ7_fill_53178_7 (tgt := 20) (by decide) rfl (fun c1 => ?_) (fun c1 => absurd (nI_le (Nat.le_refl i) hn) c1)
    exact hret _ _ dJ7_fill_53178_20
  | succ m ih =>
    intro i hi ht
    subst ht
    refine jv_iload_n (x := nI i) hE dJ7_fill_53178_5 rfl 2 rfl rfl ?_
    refine jv_iload_n (x := nI n) hE dJ7_fill_53178_6 rfl 3 rfl rfl ?_
    refine jv_icmp_ge hE dJ7_fill_53178_7 (tgt := 20) (by decide) rfl (fun c1 => absurd c1 (nI_ge (by omega) hn)) (fun c1 => ?_)
    refine jv_aload_n (x := k) hE dJ7_fill_53178_10 rfl 0 rfl rfl ?_
    refine jv_iload_n (x := nI i) hE dJ7_fill_53178_11 rfl 2 rfl rfl ?_
    refine jv_iload_n (x := v) hE dJ7_fill_53178_12 rfl 1 rfl rfl ?_
    refine jv_iast hE dJ7_fill_53178_13 rfl hk (vp_in_nI (by omega) hn) ?_
    refine jv_iinc (x := nI i) (v := nI (i + 1)) (L' := [some (.ref k), some (.int v), some (.int (nI (i + 1))), some (.int (nI n))]) hE dJ7_fill_53178_14 rfl rfl (nI_1 i) (by decide) rfl rfl ?_
    refine jv_goto hE dJ7_fill_53178_17 (tgt := 5) (by decide) ?_
    refine ih (i + 1) (by omega) ?_
    rw [nI_clamp (by omega), jv_flp_s]
theorem ok_J7_fill_53178 {v : Int32} {τ : jv_S} (hn : n < 2 ^ 31) (hk : jv_os[k]? = some (.inr (0, n))) (h : jv_fl σ k n v = τ) : jv_Cn G l 1 M_J7_fill_53178 [.ref k, .int v] σ none τ := by
  refine jv_of (L0 := [some (.ref k), some (.int v), none, none]) (by decide +kernel) (Nat.le_of_ble_eq_true rfl) rfl jv_okV (fun E e1 e2 hE hret => ?_)
  refine jv_iconst (v := 0) hE dJ7_fill_53178_0 rfl (by decide) ?_
  refine jv_istore_n (x := 0) (L' := [some (.ref k), some (.int v), some (.int 0), none]) hE dJ7_fill_53178_1 rfl 2 rfl (by decide) rfl rfl ?_
  refine jv_aload_n (x := k) hE dJ7_fill_53178_2 rfl 0 rfl rfl ?_
  refine jv_alen hE dJ7_fill_53178_3 rfl hk (v := nI n) rfl ?_
  refine jv_istore_n (x := nI n) (L' := [some (.ref k), some (.int v), some (.int 0), some (.int (nI n))]) hE dJ7_fill_53178_4 rfl 3 rfl (by decide) rfl rfl ?_
  refine lp_fill (σ := σ) hn hk hE (by subst h; exact hret) n 0 (by omega) (jv_flp_0 σ k v).symm
end JVLEAF
end
section
noncomputable def f_X7_hasBit (σ : jv_S) (p1 : Int32) (p2 : Int32) : Bool := jv_lt (if (((p1.toUInt32 >>> (p2.toUInt32 &&& Int32.toUInt32 31)).toInt32) &&& (1 : Int32)) = 0 then (false) else (true)) (fun q2 => q2)
set_option maxRecDepth 100000 in
set_option maxHeartbeats 4000000 in
theorem ok_X7_hasBit {G : jv_G} {l : Launch} {σ : jv_S} {p1 : Int32} {p2 : Int32} {r : Bool} (h : f_X7_hasBit σ p1 p2 = r) : jv_Cn G l 1 M_X7_hasBit [.int p1, .int p2] σ (some (.int (jv_b r))) σ := by
  refine jv_of (L0 := [some (.int p1), some (.int p2)]) (by decide +kernel) (Nat.le_of_ble_eq_true rfl) rfl (jv_okZ _) (fun E e1 e2 hE hret => ?_)
  unfold f_X7_hasBit at h
  refine jv_iload_n (x := p1) (pc' := 1) hE dX7_hasBit_0 rfl 0 rfl rfl ?_
  refine jv_iload_n (x := p2) (pc' := 2) hE dX7_hasBit_1 rfl 1 rfl rfl ?_
  refine jv_iushr (x := p1) (y := p2) (pc' := 3) hE dX7_hasBit_2 rfl ?_
  refine jv_iconst (v := (1 : Int32)) (pc' := 4) hE dX7_hasBit_3 rfl (by decide) ?_
  refine jv_iand (x := ((p1.toUInt32 >>> (p2.toUInt32 &&& Int32.toUInt32 31)).toInt32)) (y := (1 : Int32)) (pc' := 5) hE dX7_hasBit_4 rfl ?_
  obtain ⟨q2, hq2, h⟩ := jv_lt_eq h
  have kq2 : jv_V E 13 [none, none] [.int (jv_b q2)] σ := by
    cases h
    exact hret _ _ dX7_hasBit_13
  refine jv_if_eq (x := (((p1.toUInt32 >>> (p2.toUInt32 &&& Int32.toUInt32 31)).toInt32) &&& (1 : Int32))) (tgt := 12) (pc' := 8) hE dX7_hasBit_5 (by decide) rfl (fun c1 => ?_) (fun c1 => ?_)
  · rw [if_pos c1] at hq2
    refine jv_iconst (v := (0 : Int32)) (pc' := 13) hE dX7_hasBit_12 rfl (by decide) ?_
    cases hq2
    exact jv_forget [false, false] kq2
  · rw [if_neg c1] at hq2
    refine jv_iconst (v := (1 : Int32)) (pc' := 9) hE dX7_hasBit_8 rfl (by decide) ?_
    refine jv_goto (tgt := 13) hE dX7_hasBit_9 (by decide) ?_
    cases hq2
    exact jv_forget [false, false] kq2
noncomputable def f_X3_nodeTotal (σ : jv_S) : Int32 := (σ.1 1 6)
set_option maxRecDepth 100000 in
set_option maxHeartbeats 4000000 in
theorem ok_X3_nodeTotal {G : jv_G} {l : Launch} {σ : jv_S} {r : Int32} (h : f_X3_nodeTotal σ = r) : jv_Cn G l 1 M_X3_nodeTotal [.ref 1] σ (some (.int r)) σ := by
  refine jv_of (L0 := [some (.ref 1)]) (by decide +kernel) (Nat.le_of_ble_eq_true rfl) rfl (jv_okI _) (fun E e1 e2 hE hret => ?_)
  unfold f_X3_nodeTotal at h
  refine jv_aload_n (x := 1) (pc' := 1) hE dX3_nodeTotal_0 rfl 0 rfl rfl ?_
  refine jv_get (v := .int (σ.1 1 6)) (pc' := 4) hE dX3_nodeTotal_1 rfl lF_X3_30 rfl rfl rfl ?_
  cases h
  exact hret _ _ dX3_nodeTotal_4
noncomputable def f_X3_edgeTotal (σ : jv_S) : Int32 := (σ.1 1 7)
set_option maxRecDepth 100000 in
set_option maxHeartbeats 4000000 in
theorem ok_X3_edgeTotal {G : jv_G} {l : Launch} {σ : jv_S} {r : Int32} (h : f_X3_edgeTotal σ = r) : jv_Cn G l 1 M_X3_edgeTotal [.ref 1] σ (some (.int r)) σ := by
  refine jv_of (L0 := [some (.ref 1)]) (by decide +kernel) (Nat.le_of_ble_eq_true rfl) rfl (jv_okI _) (fun E e1 e2 hE hret => ?_)
  unfold f_X3_edgeTotal at h
  refine jv_aload_n (x := 1) (pc' := 1) hE dX3_edgeTotal_0 rfl 0 rfl rfl ?_
  refine jv_get (v := .int (σ.1 1 7)) (pc' := 4) hE dX3_edgeTotal_1 rfl lF_X3_34 rfl rfl rfl ?_
  cases h
  exact hret _ _ dX3_edgeTotal_4
noncomputable def f_X3_usableTotal (σ : jv_S) : Int32 := (jv_rd (σ.1 7) 11 0 (10 : Int32))
set_option maxRecDepth 100000 in
set_option maxHeartbeats 4000000 in
theorem ok_X3_usableTotal {G : jv_G} {l : Launch} {σ : jv_S} {r : Int32} (h : f_X3_usableTotal σ = r) : jv_Cn G l 2 M_X3_usableTotal [.ref 1] σ (some (.int r)) σ := by
  refine jv_of (L0 := [some (.ref 1)]) (by decide +kernel) (Nat.le_of_ble_eq_true rfl) rfl (jv_okI _) (fun E e1 e2 hE hret => ?_)
  unfold f_X3_usableTotal at h
  refine jv_aload_n (x := 1) (pc' := 1) hE dX3_usableTotal_0 rfl 0 rfl rfl ?_
  refine jv_get (v := .ref 7) (pc' := 4) hE dX3_usableTotal_1 rfl lF_X3_27 rfl rfl rfl ?_
  refine jv_bipush (v := (10 : Int32)) (pc' := 6) hE dX3_usableTotal_4 rfl (by decide) ?_
  refine jv_callN (pc' := 9) (o := some (.int (jv_rd (σ.1 7) 11 0 (10 : Int32)))) (σ' := σ) hE dX3_usableTotal_6 rfl lN_X3_64 (ok_X7_at (n := 11) (by decide) rfl rfl) rfl (by decide) rfl (Nat.le_of_ble_eq_true rfl) ?_
  show jv_V E 9 [some (.ref 1)] [.int (jv_rd (σ.1 7) 11 0 (10 : Int32))] σ
  cases h
  exact hret _ _ dX3_usableTotal_9
noncomputable def f_X3_tailOf (σ : jv_S) (p1 : Int32) : Int32 := (jv_rd (σ.1 2) 24 0 p1)
set_option maxRecDepth 100000 in
set_option maxHeartbeats 4000000 in
theorem ok_X3_tailOf {G : jv_G} {l : Launch} {σ : jv_S} {p1 : Int32} {r : Int32} (h : f_X3_tailOf σ p1 = r) : jv_Cn G l 2 M_X3_tailOf [.ref 1, .int p1] σ (some (.int r)) σ := by
  refine jv_of (L0 := [some (.ref 1), some (.int p1)]) (by decide +kernel) (Nat.le_of_ble_eq_true rfl) rfl (jv_okI _) (fun E e1 e2 hE hret => ?_)
  unfold f_X3_tailOf at h
  refine jv_aload_n (x := 1) (pc' := 1) hE dX3_tailOf_0 rfl 0 rfl rfl ?_
  refine jv_get (v := .ref 2) (pc' := 4) hE dX3_tailOf_1 rfl lF_X3_9 rfl rfl rfl ?_
  refine jv_iload_n (x := p1) (pc' := 5) hE dX3_tailOf_4 rfl 1 rfl rfl ?_
  refine jv_callN (pc' := 8) (o := some (.int (jv_rd (σ.1 2) 24 0 p1))) (σ' := σ) hE dX3_tailOf_5 rfl lN_X3_64 (ok_X7_at (n := 24) (by decide) rfl rfl) rfl (by decide) rfl (Nat.le_of_ble_eq_true rfl) ?_
  show jv_V E 8 [some (.ref 1), some (.int p1)] [.int (jv_rd (σ.1 2) 24 0 p1)] σ
  cases h
  exact hret _ _ dX3_tailOf_8
noncomputable def f_X3_headOf (σ : jv_S) (p1 : Int32) : Int32 := (jv_rd (σ.1 3) 24 0 p1)
set_option maxRecDepth 100000 in
set_option maxHeartbeats 4000000 in
theorem ok_X3_headOf {G : jv_G} {l : Launch} {σ : jv_S} {p1 : Int32} {r : Int32} (h : f_X3_headOf σ p1 = r) : jv_Cn G l 2 M_X3_headOf [.ref 1, .int p1] σ (some (.int r)) σ := by
  refine jv_of (L0 := [some (.ref 1), some (.int p1)]) (by decide +kernel) (Nat.le_of_ble_eq_true rfl) rfl (jv_okI _) (fun E e1 e2 hE hret => ?_)
  unfold f_X3_headOf at h
  refine jv_aload_n (x := 1) (pc' := 1) hE dX3_headOf_0 rfl 0 rfl rfl ?_
  refine jv_get (v := .ref 3) (pc' := 4) hE dX3_headOf_1 rfl lF_X3_15 rfl rfl rfl ?_
  refine jv_iload_n (x := p1) (pc' := 5) hE dX3_headOf_4 rfl 1 rfl rfl ?_
  refine jv_callN (pc' := 8) (o := some (.int (jv_rd (σ.1 3) 24 0 p1))) (σ' := σ) hE dX3_headOf_5 rfl lN_X3_64 (ok_X7_at (n := 24) (by decide) rfl rfl) rfl (by decide) rfl (Nat.le_of_ble_eq_true rfl) ?_
  show jv_V E 8 [some (.ref 1), some (.int p1)] [.int (jv_rd (σ.1 3) 24 0 p1)] σ
  cases h
  exact hret _ _ dX3_headOf_8
noncomputable def f_X3_isUsable (σ : jv_S) (p1 : Int32) : Bool := jv_lt (if (f_X7_hasBit σ (σ.1 1 8) (f_X3_tailOf σ p1)) = true then (true) else (if (f_X7_hasBit σ (σ.1 1 8) (f_X3_headOf σ p1)) = true then (true) else (false))) (fun q2 => jv_lt (if q2 = true then (false) else (if (f_X7_hasBit σ (σ.1 1 9) p1) = true then (false) else (true))) (fun q5 => q5))
set_option maxRecDepth 100000 in
set_option maxHeartbeats 4000000 in
theorem ok_X3_isUsable {G : jv_G} {l : Launch} {σ : jv_S} {p1 : Int32} {r : Bool} (h : f_X3_isUsable σ p1 = r) : jv_Cn G l 3 M_X3_isUsable [.ref 1, .int p1] σ (some (.int (jv_b r))) σ := by
  refine jv_of (L0 := [some (.ref 1), some (.int p1), none]) (by decide +kernel) (Nat.le_of_ble_eq_true rfl) rfl (jv_okZ _) (fun E e1 e2 hE hret => ?_)
  unfold f_X3_isUsable at h
  refine jv_aload_n (x := 1) (pc' := 1) hE dX3_isUsable_0 rfl 0 rfl rfl ?_
  refine jv_get (v := .int (σ.1 1 8)) (pc' := 4) hE dX3_isUsable_1 rfl lF_X3_37 rfl rfl rfl ?_
  refine jv_aload_n (x := 1) (pc' := 5) hE dX3_isUsable_4 rfl 0 rfl rfl ?_
  refine jv_iload_n (x := p1) (pc' := 6) hE dX3_isUsable_5 rfl 1 rfl rfl ?_
  refine jv_callV (pc' := 9) (o := some (.int (f_X3_tailOf σ p1))) (σ' := σ) hE dX3_isUsable_6 rfl lV_X3_71 (ok_X3_tailOf rfl) rfl rfl rfl (by decide) rfl (Nat.le_of_ble_eq_true rfl) ?_
  show jv_V E 9 [some (.ref 1), some (.int p1), none] [.int (f_X3_tailOf σ p1), .int (σ.1 1 8)] σ
  refine jv_callN (pc' := 12) (o := some (.int (jv_b (f_X7_hasBit σ (σ.1 1 8) (f_X3_tailOf σ p1))))) (σ' := σ) hE dX3_isUsable_9 rfl lN_X3_60 (ok_X7_hasBit rfl) rfl (by decide) rfl (Nat.le_of_ble_eq_true rfl) ?_
  show jv_V E 12 [some (.ref 1), some (.int p1), none] [.int (jv_b (f_X7_hasBit σ (σ.1 1 8) (f_X3_tailOf σ p1)))] σ
  obtain ⟨q2, hq2, h⟩ := jv_lt_eq h
  have kq2 : jv_V E 35 [some (.ref 1), some (.int p1), none] [.int (jv_b q2)] σ := by
    refine jv_istore_n (x := (jv_b q2)) (L' := [some (.ref 1), some (.int p1), some (.int (jv_b q2))]) (pc' := 36) hE dX3_isUsable_35 rfl 2 rfl (by decide) rfl rfl ?_
    refine jv_iload_n (x := (jv_b q2)) (pc' := 37) hE dX3_isUsable_36 rfl 2 rfl rfl ?_
    obtain ⟨q5, hq5, h⟩ := jv_lt_eq h
    have kq5 : jv_V E 56 [none, none, none] [.int (jv_b q5)] σ := by
      cases h
      exact hret _ _ dX3_isUsable_56
    refine jv_if_ne (x := (jv_b q2)) (tgt := 55) (pc' := 40) hE dX3_isUsable_37 (by decide) rfl (fun c4 => ?_) (fun c4 => ?_)
    · have c4 := jv_b1 c4
      rw [if_pos c4] at hq5
      refine jv_iconst (v := (0 : Int32)) (pc' := 56) hE dX3_isUsable_55 rfl (by decide) ?_
      cases hq5
      exact jv_forget [false, false, false] kq5
    · have c4 := jv_b0 c4
      rw [if_neg c4] at hq5
      refine jv_aload_n (x := 1) (pc' := 41) hE dX3_isUsable_40 rfl 0 rfl rfl ?_
      refine jv_get (v := .int (σ.1 1 9)) (pc' := 44) hE dX3_isUsable_41 rfl lF_X3_40 rfl rfl rfl ?_
      refine jv_iload_n (x := p1) (pc' := 45) hE dX3_isUsable_44 rfl 1 rfl rfl ?_
      refine jv_callN (pc' := 48) (o := some (.int (jv_b (f_X7_hasBit σ (σ.1 1 9) p1)))) (σ' := σ) hE dX3_isUsable_45 rfl lN_X3_60 (ok_X7_hasBit rfl) rfl (by decide) rfl (Nat.le_of_ble_eq_true rfl) ?_
      show jv_V E 48 [some (.ref 1), some (.int p1), some (.int (jv_b q2))] [.int (jv_b (f_X7_hasBit σ (σ.1 1 9) p1))] σ
      refine jv_if_ne (x := (jv_b (f_X7_hasBit σ (σ.1 1 9) p1))) (tgt := 55) (pc' := 51) hE dX3_isUsable_48 (by decide) rfl (fun c6 => ?_) (fun c6 => ?_)
      · have c6 := jv_b1 c6
        rw [if_pos c6] at hq5
        refine jv_iconst (v := (0 : Int32)) (pc' := 56) hE dX3_isUsable_55 rfl (by decide) ?_
        cases hq5
        exact jv_forget [false, false, false] kq5
      · have c6 := jv_b0 c6
        rw [if_neg c6] at hq5
        refine jv_iconst (v := (1 : Int32)) (pc' := 52) hE dX3_isUsable_51 rfl (by decide) ?_
        refine jv_goto (tgt := 56) hE dX3_isUsable_52 (by decide) ?_
        cases hq5
        exact jv_forget [false, false, false] kq5
  refine jv_if_ne (x := (jv_b (f_X7_hasBit σ (σ.1 1 8) (f_X3_tailOf σ p1)))) (tgt := 30) (pc' := 15) hE dX3_isUsable_12 (by decide) rfl (fun c1 => ?_) (fun c1 => ?_)
  · have c1 := jv_b1 c1
    rw [if_pos c1] at hq2
    refine jv_iconst (v := (1 : Int32)) (pc' := 31) hE dX3_isUsable_30 rfl (by decide) ?_
    refine jv_goto (tgt := 35) hE dX3_isUsable_31 (by decide) ?_
    cases hq2
    exact jv_forget [true, true, true] kq2
  · have c1 := jv_b0 c1
    rw [if_neg c1] at hq2
    refine jv_aload_n (x := 1) (pc' := 16) hE dX3_isUsable_15 rfl 0 rfl rfl ?_
    refine jv_get (v := .int (σ.1 1 8)) (pc' := 19) hE dX3_isUsable_16 rfl lF_X3_37 rfl rfl rfl ?_
    refine jv_aload_n (x := 1) (pc' := 20) hE dX3_isUsable_19 rfl 0 rfl rfl ?_
    refine jv_iload_n (x := p1) (pc' := 21) hE dX3_isUsable_20 rfl 1 rfl rfl ?_
    refine jv_callV (pc' := 24) (o := some (.int (f_X3_headOf σ p1))) (σ' := σ) hE dX3_isUsable_21 rfl lV_X3_78 (ok_X3_headOf rfl) rfl rfl rfl (by decide) rfl (Nat.le_of_ble_eq_true rfl) ?_
    show jv_V E 24 [some (.ref 1), some (.int p1), none] [.int (f_X3_headOf σ p1), .int (σ.1 1 8)] σ
    refine jv_callN (pc' := 27) (o := some (.int (jv_b (f_X7_hasBit σ (σ.1 1 8) (f_X3_headOf σ p1))))) (σ' := σ) hE dX3_isUsable_24 rfl lN_X3_60 (ok_X7_hasBit rfl) rfl (by decide) rfl (Nat.le_of_ble_eq_true rfl) ?_
    show jv_V E 27 [some (.ref 1), some (.int p1), none] [.int (jv_b (f_X7_hasBit σ (σ.1 1 8) (f_X3_headOf σ p1)))] σ
    refine jv_if_eq (x := (jv_b (f_X7_hasBit σ (σ.1 1 8) (f_X3_headOf σ p1)))) (tgt := 34) (pc' := 30) hE dX3_isUsable_27 (by decide) rfl (fun c3 => ?_) (fun c3 => ?_)
    · have c3 := jv_b0 c3
      rw [if_neg c3] at hq2
      refine jv_iconst (v := (0 : Int32)) (pc' := 35) hE dX3_isUsable_34 rfl (by decide) ?_
      cases hq2
      exact jv_forget [true, true, true] kq2
    · have c3 := jv_b1 c3
      rw [if_pos c3] at hq2
      refine jv_iconst (v := (1 : Int32)) (pc' := 31) hE dX3_isUsable_30 rfl (by decide) ?_
      refine jv_goto (tgt := 35) hE dX3_isUsable_31 (by decide) ?_
      cases hq2
      exact jv_forget [true, true, true] kq2
noncomputable def f_X3_listOutEdges_lp21 (a2 : Int32) : Nat → Int32 → Int32 → jv_S → Option (Int32 × Int32 × jv_S)
  | 0, _, _, _ => none
  | n + 1, v1, v3, σ => if (σ.1 1 7) ≤ v3 then (some (v1, v3, σ)) else (jv_lt (if (f_X3_tailOf σ v3) = a2 then (if (f_X3_isUsable σ v3) = true then (((v1 + (1 : Int32)), (jv_wr σ 6 24 v1 v3))) else ((v1, σ))) else ((v1, σ))) (fun q4 => f_X3_listOutEdges_lp21 a2 n q4.1 (v3 + (1 : Int32)) q4.2))
noncomputable def f_X3_listOutEdges_lp4 : Nat → Int32 → Int32 → jv_S → Option (Int32 × Int32 × jv_S)
  | 0, _, _, _ => none
  | n + 1, v1, v2, σ => if (10 : Int32) ≤ v2 then (some (v1, v2, σ)) else (jv_bd (f_X3_listOutEdges_lp21 v2 jv_fuel v1 (0 : Int32) (jv_wr σ 7 11 v2 v1)) (fun q2 => f_X3_listOutEdges_lp4 n q2.1 (v2 + (1 : Int32)) q2.2.2))
noncomputable def f_X3_listOutEdges (σ : jv_S) : Option (jv_S) := jv_bd (f_X3_listOutEdges_lp4 jv_fuel (0 : Int32) (0 : Int32) σ) (fun q3 => some (jv_wr q3.2.2 7 11 (10 : Int32) q3.1))
set_option maxRecDepth 100000 in
set_option maxHeartbeats 4000000 in
theorem lp_X3_listOutEdges_21 {a2 : Int32} {E : jv_E} (hE : jv_Cx E RX3 cX3_listOutEdges 4 4) : ∀ (n : Nat) (v1 : Int32) (v3 : Int32) (σ : jv_S) (q : Int32 × Int32 × jv_S), f_X3_listOutEdges_lp21 a2 n v1 v3 σ = some q → (jv_V E 64 [some (.ref 1), some (.int q.1), some (.int a2), none] [] q.2.2) → jv_V E 21 [some (.ref 1), some (.int v1), some (.int a2), some (.int v3)] [] σ := by
  intro n
  induction n with
  | zero =>
    intro v1 v3 σ q h
    rw [f_X3_listOutEdges_lp21] at h
    cases h
  | succ n ih =>
    intro v1 v3 σ q h hk
    rw [f_X3_listOutEdges_lp21] at h
    refine jv_iload_n (x := v3) (pc' := 22) hE dX3_listOutEdges_21 rfl 3 rfl rfl ?_
    refine jv_aload_n (x := 1) (pc' := 23) hE dX3_listOutEdges_22 rfl 0 rfl rfl ?_
    refine jv_get (v := .int (σ.1 1 7)) (pc' := 26) hE dX3_listOutEdges_23 rfl lF_X3_34 rfl rfl rfl ?_
    refine jv_icmp_ge (x := v3) (y := (σ.1 1 7)) (tgt := 64) (pc' := 29) hE dX3_listOutEdges_26 (by decide) rfl (fun c2 => ?_) (fun c2 => ?_)
    · rw [if_pos c2] at h
      cases h
      exact jv_forget [true, true, true, false] hk
    · rw [if_neg c2] at h
      refine jv_aload_n (x := 1) (pc' := 30) hE dX3_listOutEdges_29 rfl 0 rfl rfl ?_
      refine jv_iload_n (x := v3) (pc' := 31) hE dX3_listOutEdges_30 rfl 3 rfl rfl ?_
      refine jv_callV (pc' := 34) (o := some (.int (f_X3_tailOf σ v3))) (σ' := σ) hE dX3_listOutEdges_31 rfl lV_X3_71 (ok_X3_tailOf rfl) rfl rfl rfl (by decide) rfl (Nat.le_of_ble_eq_true rfl) ?_
      show jv_V E 34 [some (.ref 1), some (.int v1), some (.int a2), some (.int v3)] [.int (f_X3_tailOf σ v3)] σ
      refine jv_iload_n (x := a2) (pc' := 35) hE dX3_listOutEdges_34 rfl 2 rfl rfl ?_
      obtain ⟨q4, hq4, h⟩ := jv_lt_eq h
      have kq4 : jv_V E 58 [some (.ref 1), some (.int q4.1), some (.int a2), some (.int v3)] [] q4.2 := by
        refine jv_iinc (x := v3) (v := (v3 + (1 : Int32))) (L' := [some (.ref 1), some (.int q4.1), some (.int a2), some (.int (v3 + (1 : Int32)))]) (pc' := 61) hE dX3_listOutEdges_58 rfl rfl rfl (by decide) rfl rfl ?_
        refine jv_goto (tgt := 21) hE dX3_listOutEdges_61 (by decide) ?_
        exact jv_forget [true, true, true, true] (ih q4.1 (v3 + (1 : Int32)) q4.2 _ h hk)
      refine jv_icmp_ne (x := (f_X3_tailOf σ v3)) (y := a2) (tgt := 58) (pc' := 38) hE dX3_listOutEdges_35 (by decide) rfl (fun c3 => ?_) (fun c3 => ?_)
      · rw [if_neg c3] at hq4
        cases hq4
        exact jv_forget [true, true, true, true] kq4
      · rw [if_pos c3] at hq4
        refine jv_aload_n (x := 1) (pc' := 39) hE dX3_listOutEdges_38 rfl 0 rfl rfl ?_
        refine jv_iload_n (x := v3) (pc' := 40) hE dX3_listOutEdges_39 rfl 3 rfl rfl ?_
        refine jv_callV (pc' := 43) (o := some (.int (jv_b (f_X3_isUsable σ v3)))) (σ' := σ) hE dX3_listOutEdges_40 rfl lV_X3_74 (ok_X3_isUsable rfl) rfl rfl rfl (by decide) rfl (Nat.le_of_ble_eq_true rfl) ?_
        show jv_V E 43 [some (.ref 1), some (.int v1), some (.int a2), some (.int v3)] [.int (jv_b (f_X3_isUsable σ v3))] σ
        refine jv_if_eq (x := (jv_b (f_X3_isUsable σ v3))) (tgt := 58) (pc' := 46) hE dX3_listOutEdges_43 (by decide) rfl (fun c5 => ?_) (fun c5 => ?_)
        · have c5 := jv_b0 c5
          rw [if_neg c5] at hq4
          cases hq4
          exact jv_forget [true, true, true, true] kq4
        · have c5 := jv_b1 c5
          rw [if_pos c5] at hq4
          refine jv_aload_n (x := 1) (pc' := 47) hE dX3_listOutEdges_46 rfl 0 rfl rfl ?_
          refine jv_get (v := .ref 6) (pc' := 50) hE dX3_listOutEdges_47 rfl lF_X3_24 rfl rfl rfl ?_
          refine jv_iload_n (x := v1) (pc' := 51) hE dX3_listOutEdges_50 rfl 1 rfl rfl ?_
          refine jv_iload_n (x := v3) (pc' := 52) hE dX3_listOutEdges_51 rfl 3 rfl rfl ?_
          refine jv_callN (pc' := 55) (o := none) (σ' := (jv_wr σ 6 24 v1 v3)) hE dX3_listOutEdges_52 rfl lN_X3_52 (ok_X7_put (n := 24) (by decide) rfl rfl) rfl (by decide) rfl (Nat.le_of_ble_eq_true rfl) ?_
          show jv_V E 55 [some (.ref 1), some (.int v1), some (.int a2), some (.int v3)] [] (jv_wr σ 6 24 v1 v3)
          refine jv_iinc (x := v1) (v := (v1 + (1 : Int32))) (L' := [some (.ref 1), some (.int (v1 + (1 : Int32))), some (.int a2), some (.int v3)]) (pc' := 58) hE dX3_listOutEdges_55 rfl rfl rfl (by decide) rfl rfl ?_
          cases hq4
          exact jv_forget [true, true, true, true] kq4
set_option maxRecDepth 100000 in
set_option maxHeartbeats 4000000 in
theorem lp_X3_listOutEdges_4 {E : jv_E} (hE : jv_Cx E RX3 cX3_listOutEdges 4 4) : ∀ (n : Nat) (v1 : Int32) (v2 : Int32) (σ : jv_S) (q : Int32 × Int32 × jv_S), f_X3_listOutEdges_lp4 n v1 v2 σ = some q → (jv_V E 70 [some (.ref 1), some (.int q.1), none, none] [] q.2.2) → jv_V E 4 [some (.ref 1), some (.int v1), some (.int v2), none] [] σ := by
  intro n
  induction n with
  | zero =>
    intro v1 v2 σ q h
    rw [f_X3_listOutEdges_lp4] at h
    cases h
  | succ n ih =>
    intro v1 v2 σ q h hk
    rw [f_X3_listOutEdges_lp4] at h
    refine jv_iload_n (x := v2) (pc' := 5) hE dX3_listOutEdges_4 rfl 2 rfl rfl ?_
    refine jv_bipush (v := (10 : Int32)) (pc' := 7) hE dX3_listOutEdges_5 rfl (by decide) ?_
    refine jv_icmp_ge (x := v2) (y := (10 : Int32)) (tgt := 70) (pc' := 10) hE dX3_listOutEdges_7 (by decide) rfl (fun c1 => ?_) (fun c1 => ?_)
    · rw [if_pos c1] at h
      cases h
      exact jv_forget [true, true, false, true] hk
    · rw [if_neg c1] at h
      refine jv_aload_n (x := 1) (pc' := 11) hE dX3_listOutEdges_10 rfl 0 rfl rfl ?_
      refine jv_get (v := .ref 7) (pc' := 14) hE dX3_listOutEdges_11 rfl lF_X3_27 rfl rfl rfl ?_
      refine jv_iload_n (x := v2) (pc' := 15) hE dX3_listOutEdges_14 rfl 2 rfl rfl ?_
      refine jv_iload_n (x := v1) (pc' := 16) hE dX3_listOutEdges_15 rfl 1 rfl rfl ?_
      refine jv_callN (pc' := 19) (o := none) (σ' := (jv_wr σ 7 11 v2 v1)) hE dX3_listOutEdges_16 rfl lN_X3_52 (ok_X7_put (n := 11) (by decide) rfl rfl) rfl (by decide) rfl (Nat.le_of_ble_eq_true rfl) ?_
      show jv_V E 19 [some (.ref 1), some (.int v1), some (.int v2), none] [] (jv_wr σ 7 11 v2 v1)
      refine jv_iconst (v := (0 : Int32)) (pc' := 20) hE dX3_listOutEdges_19 rfl (by decide) ?_
      refine jv_istore_n (x := (0 : Int32)) (L' := [some (.ref 1), some (.int v1), some (.int v2), some (.int (0 : Int32))]) (pc' := 21) hE dX3_listOutEdges_20 rfl 3 rfl (by decide) rfl rfl ?_
      obtain ⟨q2, hq2, h⟩ := jv_bd_some h
      refine jv_forget [true, true, true, true] (lp_X3_listOutEdges_21 hE jv_fuel v1 (0 : Int32) (jv_wr σ 7 11 v2 v1) _ hq2 ?_)
      refine jv_iinc (x := v2) (v := (v2 + (1 : Int32))) (L' := [some (.ref 1), some (.int q2.1), some (.int (v2 + (1 : Int32))), none]) (pc' := 67) hE dX3_listOutEdges_64 rfl rfl rfl (by decide) rfl rfl ?_
      refine jv_goto (tgt := 4) hE dX3_listOutEdges_67 (by decide) ?_
      exact jv_forget [true, true, true, true] (ih q2.1 (v2 + (1 : Int32)) q2.2.2 _ h hk)
set_option maxRecDepth 100000 in
set_option maxHeartbeats 4000000 in
theorem ok_X3_listOutEdges {G : jv_G} {l : Launch} {σ : jv_S} {r : jv_S} (h : f_X3_listOutEdges σ = some r) : jv_Cn G l 4 M_X3_listOutEdges [.ref 1] σ (none) r := by
  refine jv_of (L0 := [some (.ref 1), none, none, none]) (by decide +kernel) (Nat.le_of_ble_eq_true rfl) rfl jv_okV (fun E e1 e2 hE hret => ?_)
  unfold f_X3_listOutEdges at h
  refine jv_iconst (v := (0 : Int32)) (pc' := 1) hE dX3_listOutEdges_0 rfl (by decide) ?_
  refine jv_istore_n (x := (0 : Int32)) (L' := [some (.ref 1), some (.int (0 : Int32)), none, none]) (pc' := 2) hE dX3_listOutEdges_1 rfl 1 rfl (by decide) rfl rfl ?_
  refine jv_iconst (v := (0 : Int32)) (pc' := 3) hE dX3_listOutEdges_2 rfl (by decide) ?_
  refine jv_istore_n (x := (0 : Int32)) (L' := [some (.ref 1), some (.int (0 : Int32)), some (.int (0 : Int32)), none]) (pc' := 4) hE dX3_listOutEdges_3 rfl 2 rfl (by decide) rfl rfl ?_
  obtain ⟨q3, hq3, h⟩ := jv_bd_some h
  refine jv_forget [true, true, true, true] (lp_X3_listOutEdges_4 hE jv_fuel (0 : Int32) (0 : Int32) σ _ hq3 ?_)
  refine jv_aload_n (x := 1) (pc' := 71) hE dX3_listOutEdges_70 rfl 0 rfl rfl ?_
  refine jv_get (v := .ref 7) (pc' := 74) hE dX3_listOutEdges_71 rfl lF_X3_27 rfl rfl rfl ?_
  refine jv_bipush (v := (10 : Int32)) (pc' := 76) hE dX3_listOutEdges_74 rfl (by decide) ?_
  refine jv_iload_n (x := q3.1) (pc' := 77) hE dX3_listOutEdges_76 rfl 1 rfl rfl ?_
  refine jv_callN (pc' := 80) (o := none) (σ' := (jv_wr q3.2.2 7 11 (10 : Int32) q3.1)) hE dX3_listOutEdges_77 rfl lN_X3_52 (ok_X7_put (n := 11) (by decide) rfl rfl) rfl (by decide) rfl (Nat.le_of_ble_eq_true rfl) ?_
  show jv_V E 80 [some (.ref 1), some (.int q3.1), none, none] [] (jv_wr q3.2.2 7 11 (10 : Int32) q3.1)
  cases h
  exact hret _ _ dX3_listOutEdges_80
noncomputable def f_X3_clear (σ : jv_S) (p1 : Int32) : Option (jv_S) := jv_bd (f_X3_listOutEdges (jv_fl (jv_si (jv_si (jv_si (jv_si σ 1 6 p1) 1 7 (0 : Int32)) 1 8 (0 : Int32)) 1 9 (0 : Int32)) 5 24 (0 : Int32))) (fun q1 => some q1)
set_option maxRecDepth 100000 in
set_option maxHeartbeats 4000000 in
theorem ok_X3_clear {G : jv_G} {l : Launch} {σ : jv_S} {p1 : Int32} {r : jv_S} (h : f_X3_clear σ p1 = some r) : jv_Cn G l 5 M_X3_clear [.ref 1, .int p1] σ (none) r := by
  refine jv_of (L0 := [some (.ref 1), some (.int p1)]) (by decide +kernel) (Nat.le_of_ble_eq_true rfl) rfl jv_okV (fun E e1 e2 hE hret => ?_)
  unfold f_X3_clear at h
  refine jv_aload_n (x := 1) (pc' := 1) hE dX3_clear_0 rfl 0 rfl rfl ?_
  refine jv_iload_n (x := p1) (pc' := 2) hE dX3_clear_1 rfl 1 rfl rfl ?_
  refine jv_puti (x := p1) (pc' := 5) hE dX3_clear_2 rfl lP_X3_30 rfl rfl rfl rfl ?_
  refine jv_aload_n (x := 1) (pc' := 6) hE dX3_clear_5 rfl 0 rfl rfl ?_
  refine jv_iconst (v := (0 : Int32)) (pc' := 7) hE dX3_clear_6 rfl (by decide) ?_
  refine jv_puti (x := (0 : Int32)) (pc' := 10) hE dX3_clear_7 rfl lP_X3_34 rfl rfl rfl rfl ?_
  refine jv_aload_n (x := 1) (pc' := 11) hE dX3_clear_10 rfl 0 rfl rfl ?_
  refine jv_iconst (v := (0 : Int32)) (pc' := 12) hE dX3_clear_11 rfl (by decide) ?_
  refine jv_puti (x := (0 : Int32)) (pc' := 15) hE dX3_clear_12 rfl lP_X3_37 rfl rfl rfl rfl ?_
  refine jv_aload_n (x := 1) (pc' := 16) hE dX3_clear_15 rfl 0 rfl rfl ?_
  refine jv_iconst (v := (0 : Int32)) (pc' := 17) hE dX3_clear_16 rfl (by decide) ?_
  refine jv_puti (x := (0 : Int32)) (pc' := 20) hE dX3_clear_17 rfl lP_X3_40 rfl rfl rfl rfl ?_
  refine jv_aload_n (x := 1) (pc' := 21) hE dX3_clear_20 rfl 0 rfl rfl ?_
  refine jv_get (v := .ref 5) (pc' := 24) hE dX3_clear_21 rfl lF_X3_21 rfl rfl rfl ?_
  refine jv_iconst (v := (0 : Int32)) (pc' := 25) hE dX3_clear_24 rfl (by decide) ?_
  refine jv_callS (pc' := 28) (o := none) (σ' := (jv_fl (jv_si (jv_si (jv_si (jv_si σ 1 6 p1) 1 7 (0 : Int32)) 1 8 (0 : Int32)) 1 9 (0 : Int32)) 5 24 (0 : Int32))) hE dX3_clear_25 rfl lS_X3_43 (ok_J7_fill_53178 (n := 24) (by decide) rfl rfl) rfl (by decide) rfl (Nat.le_of_ble_eq_true rfl) ?_
  show jv_V E 28 [some (.ref 1), some (.int p1)] [] (jv_fl (jv_si (jv_si (jv_si (jv_si σ 1 6 p1) 1 7 (0 : Int32)) 1 8 (0 : Int32)) 1 9 (0 : Int32)) 5 24 (0 : Int32))
  refine jv_aload_n (x := 1) (pc' := 29) hE dX3_clear_28 rfl 0 rfl rfl ?_
  obtain ⟨q1, hq1, h⟩ := jv_bd_some h
  refine jv_callV (pc' := 32) (o := none) (σ' := q1) hE dX3_clear_29 rfl lV_X3_49 (ok_X3_listOutEdges hq1) rfl rfl rfl (by decide) rfl (Nat.le_of_ble_eq_true rfl) ?_
  show jv_V E 32 [some (.ref 1), some (.int p1)] [] q1
  cases h
  exact hret _ _ dX3_clear_32
noncomputable def f_X3_hasNode (σ : jv_S) (p1 : Int32) : Bool := jv_lt (if p1 < 0 then (false) else (if (σ.1 1 6) ≤ p1 then (false) else (true))) (fun q2 => q2)
set_option maxRecDepth 100000 in
set_option maxHeartbeats 4000000 in
theorem ok_X3_hasNode {G : jv_G} {l : Launch} {σ : jv_S} {p1 : Int32} {r : Bool} (h : f_X3_hasNode σ p1 = r) : jv_Cn G l 1 M_X3_hasNode [.ref 1, .int p1] σ (some (.int (jv_b r))) σ := by
  refine jv_of (L0 := [some (.ref 1), some (.int p1)]) (by decide +kernel) (Nat.le_of_ble_eq_true rfl) rfl (jv_okZ _) (fun E e1 e2 hE hret => ?_)
  unfold f_X3_hasNode at h
  refine jv_iload_n (x := p1) (pc' := 1) hE dX3_hasNode_0 rfl 1 rfl rfl ?_
  obtain ⟨q2, hq2, h⟩ := jv_lt_eq h
  have kq2 : jv_V E 17 [none, none] [.int (jv_b q2)] σ := by
    cases h
    exact hret _ _ dX3_hasNode_17
  refine jv_if_lt (x := p1) (tgt := 16) (pc' := 4) hE dX3_hasNode_1 (by decide) rfl (fun c1 => ?_) (fun c1 => ?_)
  · rw [if_pos c1] at hq2
    refine jv_iconst (v := (0 : Int32)) (pc' := 17) hE dX3_hasNode_16 rfl (by decide) ?_
    cases hq2
    exact jv_forget [false, false] kq2
  · rw [if_neg c1] at hq2
    refine jv_iload_n (x := p1) (pc' := 5) hE dX3_hasNode_4 rfl 1 rfl rfl ?_
    refine jv_aload_n (x := 1) (pc' := 6) hE dX3_hasNode_5 rfl 0 rfl rfl ?_
    refine jv_get (v := .int (σ.1 1 6)) (pc' := 9) hE dX3_hasNode_6 rfl lF_X3_30 rfl rfl rfl ?_
    refine jv_icmp_ge (x := p1) (y := (σ.1 1 6)) (tgt := 16) (pc' := 12) hE dX3_hasNode_9 (by decide) rfl (fun c3 => ?_) (fun c3 => ?_)
    · rw [if_pos c3] at hq2
      refine jv_iconst (v := (0 : Int32)) (pc' := 17) hE dX3_hasNode_16 rfl (by decide) ?_
      cases hq2
      exact jv_forget [false, false] kq2
    · rw [if_neg c3] at hq2
      refine jv_iconst (v := (1 : Int32)) (pc' := 13) hE dX3_hasNode_12 rfl (by decide) ?_
      refine jv_goto (tgt := 17) hE dX3_hasNode_13 (by decide) ?_
      cases hq2
      exact jv_forget [false, false] kq2
noncomputable def f_X3_hasRoom (σ : jv_S) : Bool := jv_lt (if (24 : Int32) ≤ (σ.1 1 7) then (false) else (true)) (fun q2 => q2)
set_option maxRecDepth 100000 in
set_option maxHeartbeats 4000000 in
theorem ok_X3_hasRoom {G : jv_G} {l : Launch} {σ : jv_S} {r : Bool} (h : f_X3_hasRoom σ = r) : jv_Cn G l 1 M_X3_hasRoom [.ref 1] σ (some (.int (jv_b r))) σ := by
  refine jv_of (L0 := [some (.ref 1)]) (by decide +kernel) (Nat.le_of_ble_eq_true rfl) rfl (jv_okZ _) (fun E e1 e2 hE hret => ?_)
  unfold f_X3_hasRoom at h
  refine jv_aload_n (x := 1) (pc' := 1) hE dX3_hasRoom_0 rfl 0 rfl rfl ?_
  refine jv_get (v := .int (σ.1 1 7)) (pc' := 4) hE dX3_hasRoom_1 rfl lF_X3_34 rfl rfl rfl ?_
  refine jv_bipush (v := (24 : Int32)) (pc' := 6) hE dX3_hasRoom_4 rfl (by decide) ?_
  obtain ⟨q2, hq2, h⟩ := jv_lt_eq h
  have kq2 : jv_V E 14 [none] [.int (jv_b q2)] σ := by
    cases h
    exact hret _ _ dX3_hasRoom_14
  refine jv_icmp_ge (x := (σ.1 1 7)) (y := (24 : Int32)) (tgt := 13) (pc' := 9) hE dX3_hasRoom_6 (by decide) rfl (fun c1 => ?_) (fun c1 => ?_)
  · rw [if_pos c1] at hq2
    refine jv_iconst (v := (0 : Int32)) (pc' := 14) hE dX3_hasRoom_13 rfl (by decide) ?_
    cases hq2
    exact jv_forget [false] kq2
  · rw [if_neg c1] at hq2
    refine jv_iconst (v := (1 : Int32)) (pc' := 10) hE dX3_hasRoom_9 rfl (by decide) ?_
    refine jv_goto (tgt := 14) hE dX3_hasRoom_10 (by decide) ?_
    cases hq2
    exact jv_forget [false] kq2
noncomputable def f_X3_append (σ : jv_S) (p1 : Int32) (p2 : Int32) (p3 : Int32) : Option (Int32 × jv_S) := jv_bd (f_X3_listOutEdges (jv_si (jv_wr (jv_wr (jv_wr σ 2 24 (σ.1 1 7) p1) 3 24 (σ.1 1 7) p2) 4 24 (σ.1 1 7) p3) 1 7 (((jv_wr (jv_wr (jv_wr σ 2 24 (σ.1 1 7) p1) 3 24 (σ.1 1 7) p2) 4 24 (σ.1 1 7) p3).1 1 7) + (1 : Int32)))) (fun q1 => some ((σ.1 1 7), q1))
set_option maxRecDepth 100000 in
set_option maxHeartbeats 4000000 in
theorem ok_X3_append {G : jv_G} {l : Launch} {σ : jv_S} {p1 : Int32} {p2 : Int32} {p3 : Int32} {r : Int32 × jv_S} (h : f_X3_append σ p1 p2 p3 = some r) : jv_Cn G l 5 M_X3_append [.ref 1, .int p1, .int p2, .int p3] σ (some (.int r.1)) r.2 := by
  refine jv_of (L0 := [some (.ref 1), some (.int p1), some (.int p2), some (.int p3), none]) (by decide +kernel) (Nat.le_of_ble_eq_true rfl) rfl (jv_okI _) (fun E e1 e2 hE hret => ?_)
  unfold f_X3_append at h
  refine jv_aload_n (x := 1) (pc' := 1) hE dX3_append_0 rfl 0 rfl rfl ?_
  refine jv_get (v := .int (σ.1 1 7)) (pc' := 4) hE dX3_append_1 rfl lF_X3_34 rfl rfl rfl ?_
  refine jv_istore (x := (σ.1 1 7)) (L' := [some (.ref 1), some (.int p1), some (.int p2), some (.int p3), some (.int (σ.1 1 7))]) (pc' := 6) hE dX3_append_4 rfl (by decide) rfl rfl ?_
  refine jv_aload_n (x := 1) (pc' := 7) hE dX3_append_6 rfl 0 rfl rfl ?_
  refine jv_get (v := .ref 2) (pc' := 10) hE dX3_append_7 rfl lF_X3_9 rfl rfl rfl ?_
  refine jv_iload (x := (σ.1 1 7)) (pc' := 12) hE dX3_append_10 rfl rfl ?_
  refine jv_iload_n (x := p1) (pc' := 13) hE dX3_append_12 rfl 1 rfl rfl ?_
  refine jv_callN (pc' := 16) (o := none) (σ' := (jv_wr σ 2 24 (σ.1 1 7) p1)) hE dX3_append_13 rfl lN_X3_52 (ok_X7_put (n := 24) (by decide) rfl rfl) rfl (by decide) rfl (Nat.le_of_ble_eq_true rfl) ?_
  show jv_V E 16 [some (.ref 1), some (.int p1), some (.int p2), some (.int p3), some (.int (σ.1 1 7))] [] (jv_wr σ 2 24 (σ.1 1 7) p1)
  refine jv_aload_n (x := 1) (pc' := 17) hE dX3_append_16 rfl 0 rfl rfl ?_
  refine jv_get (v := .ref 3) (pc' := 20) hE dX3_append_17 rfl lF_X3_15 rfl rfl rfl ?_
  refine jv_iload (x := (σ.1 1 7)) (pc' := 22) hE dX3_append_20 rfl rfl ?_
  refine jv_iload_n (x := p2) (pc' := 23) hE dX3_append_22 rfl 2 rfl rfl ?_
  refine jv_callN (pc' := 26) (o := none) (σ' := (jv_wr (jv_wr σ 2 24 (σ.1 1 7) p1) 3 24 (σ.1 1 7) p2)) hE dX3_append_23 rfl lN_X3_52 (ok_X7_put (n := 24) (by decide) rfl rfl) rfl (by decide) rfl (Nat.le_of_ble_eq_true rfl) ?_
  show jv_V E 26 [some (.ref 1), some (.int p1), some (.int p2), some (.int p3), some (.int (σ.1 1 7))] [] (jv_wr (jv_wr σ 2 24 (σ.1 1 7) p1) 3 24 (σ.1 1 7) p2)
  refine jv_aload_n (x := 1) (pc' := 27) hE dX3_append_26 rfl 0 rfl rfl ?_
  refine jv_get (v := .ref 4) (pc' := 30) hE dX3_append_27 rfl lF_X3_18 rfl rfl rfl ?_
  refine jv_iload (x := (σ.1 1 7)) (pc' := 32) hE dX3_append_30 rfl rfl ?_
  refine jv_iload_n (x := p3) (pc' := 33) hE dX3_append_32 rfl 3 rfl rfl ?_
  refine jv_callN (pc' := 36) (o := none) (σ' := (jv_wr (jv_wr (jv_wr σ 2 24 (σ.1 1 7) p1) 3 24 (σ.1 1 7) p2) 4 24 (σ.1 1 7) p3)) hE dX3_append_33 rfl lN_X3_52 (ok_X7_put (n := 24) (by decide) rfl rfl) rfl (by decide) rfl (Nat.le_of_ble_eq_true rfl) ?_
  show jv_V E 36 [some (.ref 1), some (.int p1), some (.int p2), some (.int p3), some (.int (σ.1 1 7))] [] (jv_wr (jv_wr (jv_wr σ 2 24 (σ.1 1 7) p1) 3 24 (σ.1 1 7) p2) 4 24 (σ.1 1 7) p3)
  refine jv_aload_n (x := 1) (pc' := 37) hE dX3_append_36 rfl 0 rfl rfl ?_
  refine jv_dup (pc' := 38) hE dX3_append_37 rfl rfl ?_
  refine jv_get (v := .int ((jv_wr (jv_wr (jv_wr σ 2 24 (σ.1 1 7) p1) 3 24 (σ.1 1 7) p2) 4 24 (σ.1 1 7) p3).1 1 7)) (pc' := 41) hE dX3_append_38 rfl lF_X3_34 rfl rfl rfl ?_
  refine jv_iconst (v := (1 : Int32)) (pc' := 42) hE dX3_append_41 rfl (by decide) ?_
  refine jv_iadd (x := ((jv_wr (jv_wr (jv_wr σ 2 24 (σ.1 1 7) p1) 3 24 (σ.1 1 7) p2) 4 24 (σ.1 1 7) p3).1 1 7)) (y := (1 : Int32)) (pc' := 43) hE dX3_append_42 rfl ?_
  refine jv_puti (x := (((jv_wr (jv_wr (jv_wr σ 2 24 (σ.1 1 7) p1) 3 24 (σ.1 1 7) p2) 4 24 (σ.1 1 7) p3).1 1 7) + (1 : Int32))) (pc' := 46) hE dX3_append_43 rfl lP_X3_34 rfl rfl rfl rfl ?_
  refine jv_aload_n (x := 1) (pc' := 47) hE dX3_append_46 rfl 0 rfl rfl ?_
  obtain ⟨q1, hq1, h⟩ := jv_bd_some h
  refine jv_callV (pc' := 50) (o := none) (σ' := q1) hE dX3_append_47 rfl lV_X3_49 (ok_X3_listOutEdges hq1) rfl rfl rfl (by decide) rfl (Nat.le_of_ble_eq_true rfl) ?_
  show jv_V E 50 [some (.ref 1), some (.int p1), some (.int p2), some (.int p3), some (.int (σ.1 1 7))] [] q1
  refine jv_iload (x := (σ.1 1 7)) (pc' := 52) hE dX3_append_50 rfl rfl ?_
  cases h
  exact hret _ _ dX3_append_52
noncomputable def f_X3_hasEdge (σ : jv_S) (p1 : Int32) : Bool := jv_lt (if p1 < 0 then (false) else (if (σ.1 1 7) ≤ p1 then (false) else (true))) (fun q2 => q2)
set_option maxRecDepth 100000 in
set_option maxHeartbeats 4000000 in
theorem ok_X3_hasEdge {G : jv_G} {l : Launch} {σ : jv_S} {p1 : Int32} {r : Bool} (h : f_X3_hasEdge σ p1 = r) : jv_Cn G l 1 M_X3_hasEdge [.ref 1, .int p1] σ (some (.int (jv_b r))) σ := by
  refine jv_of (L0 := [some (.ref 1), some (.int p1)]) (by decide +kernel) (Nat.le_of_ble_eq_true rfl) rfl (jv_okZ _) (fun E e1 e2 hE hret => ?_)
  unfold f_X3_hasEdge at h
  refine jv_iload_n (x := p1) (pc' := 1) hE dX3_hasEdge_0 rfl 1 rfl rfl ?_
  obtain ⟨q2, hq2, h⟩ := jv_lt_eq h
  have kq2 : jv_V E 17 [none, none] [.int (jv_b q2)] σ := by
    cases h
    exact hret _ _ dX3_hasEdge_17
  refine jv_if_lt (x := p1) (tgt := 16) (pc' := 4) hE dX3_hasEdge_1 (by decide) rfl (fun c1 => ?_) (fun c1 => ?_)
  · rw [if_pos c1] at hq2
    refine jv_iconst (v := (0 : Int32)) (pc' := 17) hE dX3_hasEdge_16 rfl (by decide) ?_
    cases hq2
    exact jv_forget [false, false] kq2
  · rw [if_neg c1] at hq2
    refine jv_iload_n (x := p1) (pc' := 5) hE dX3_hasEdge_4 rfl 1 rfl rfl ?_
    refine jv_aload_n (x := 1) (pc' := 6) hE dX3_hasEdge_5 rfl 0 rfl rfl ?_
    refine jv_get (v := .int (σ.1 1 7)) (pc' := 9) hE dX3_hasEdge_6 rfl lF_X3_34 rfl rfl rfl ?_
    refine jv_icmp_ge (x := p1) (y := (σ.1 1 7)) (tgt := 16) (pc' := 12) hE dX3_hasEdge_9 (by decide) rfl (fun c3 => ?_) (fun c3 => ?_)
    · rw [if_pos c3] at hq2
      refine jv_iconst (v := (0 : Int32)) (pc' := 17) hE dX3_hasEdge_16 rfl (by decide) ?_
      cases hq2
      exact jv_forget [false, false] kq2
    · rw [if_neg c3] at hq2
      refine jv_iconst (v := (1 : Int32)) (pc' := 13) hE dX3_hasEdge_12 rfl (by decide) ?_
      refine jv_goto (tgt := 17) hE dX3_hasEdge_13 (by decide) ?_
      cases hq2
      exact jv_forget [false, false] kq2
noncomputable def f_X3_lengthOf (σ : jv_S) (p1 : Int32) : Int32 := (jv_rd (σ.1 4) 24 0 p1)
set_option maxRecDepth 100000 in
set_option maxHeartbeats 4000000 in
theorem ok_X3_lengthOf {G : jv_G} {l : Launch} {σ : jv_S} {p1 : Int32} {r : Int32} (h : f_X3_lengthOf σ p1 = r) : jv_Cn G l 2 M_X3_lengthOf [.ref 1, .int p1] σ (some (.int r)) σ := by
  refine jv_of (L0 := [some (.ref 1), some (.int p1)]) (by decide +kernel) (Nat.le_of_ble_eq_true rfl) rfl (jv_okI _) (fun E e1 e2 hE hret => ?_)
  unfold f_X3_lengthOf at h
  refine jv_aload_n (x := 1) (pc' := 1) hE dX3_lengthOf_0 rfl 0 rfl rfl ?_
  refine jv_get (v := .ref 4) (pc' := 4) hE dX3_lengthOf_1 rfl lF_X3_18 rfl rfl rfl ?_
  refine jv_iload_n (x := p1) (pc' := 5) hE dX3_lengthOf_4 rfl 1 rfl rfl ?_
  refine jv_callN (pc' := 8) (o := some (.int (jv_rd (σ.1 4) 24 0 p1))) (σ' := σ) hE dX3_lengthOf_5 rfl lN_X3_64 (ok_X7_at (n := 24) (by decide) rfl rfl) rfl (by decide) rfl (Nat.le_of_ble_eq_true rfl) ?_
  show jv_V E 8 [some (.ref 1), some (.int p1)] [.int (jv_rd (σ.1 4) 24 0 p1)] σ
  cases h
  exact hret _ _ dX3_lengthOf_8
noncomputable def f_X3_changeLength (σ : jv_S) (p1 : Int32) (p2 : Int32) : Int32 × jv_S := ((f_X3_lengthOf σ p1), (jv_wr σ 4 24 p1 p2))
set_option maxRecDepth 100000 in
set_option maxHeartbeats 4000000 in
theorem ok_X3_changeLength {G : jv_G} {l : Launch} {σ : jv_S} {p1 : Int32} {p2 : Int32} {r : Int32 × jv_S} (h : f_X3_changeLength σ p1 p2 = r) : jv_Cn G l 3 M_X3_changeLength [.ref 1, .int p1, .int p2] σ (some (.int r.1)) r.2 := by
  refine jv_of (L0 := [some (.ref 1), some (.int p1), some (.int p2), none]) (by decide +kernel) (Nat.le_of_ble_eq_true rfl) rfl (jv_okI _) (fun E e1 e2 hE hret => ?_)
  unfold f_X3_changeLength at h
  refine jv_aload_n (x := 1) (pc' := 1) hE dX3_changeLength_0 rfl 0 rfl rfl ?_
  refine jv_iload_n (x := p1) (pc' := 2) hE dX3_changeLength_1 rfl 1 rfl rfl ?_
  refine jv_callV (pc' := 5) (o := some (.int (f_X3_lengthOf σ p1))) (σ' := σ) hE dX3_changeLength_2 rfl lV_X3_56 (ok_X3_lengthOf rfl) rfl rfl rfl (by decide) rfl (Nat.le_of_ble_eq_true rfl) ?_
  show jv_V E 5 [some (.ref 1), some (.int p1), some (.int p2), none] [.int (f_X3_lengthOf σ p1)] σ
  refine jv_istore_n (x := (f_X3_lengthOf σ p1)) (L' := [some (.ref 1), some (.int p1), some (.int p2), some (.int (f_X3_lengthOf σ p1))]) (pc' := 6) hE dX3_changeLength_5 rfl 3 rfl (by decide) rfl rfl ?_
  refine jv_aload_n (x := 1) (pc' := 7) hE dX3_changeLength_6 rfl 0 rfl rfl ?_
  refine jv_get (v := .ref 4) (pc' := 10) hE dX3_changeLength_7 rfl lF_X3_18 rfl rfl rfl ?_
  refine jv_iload_n (x := p1) (pc' := 11) hE dX3_changeLength_10 rfl 1 rfl rfl ?_
  refine jv_iload_n (x := p2) (pc' := 12) hE dX3_changeLength_11 rfl 2 rfl rfl ?_
  refine jv_callN (pc' := 15) (o := none) (σ' := (jv_wr σ 4 24 p1 p2)) hE dX3_changeLength_12 rfl lN_X3_52 (ok_X7_put (n := 24) (by decide) rfl rfl) rfl (by decide) rfl (Nat.le_of_ble_eq_true rfl) ?_
  show jv_V E 15 [some (.ref 1), some (.int p1), some (.int p2), some (.int (f_X3_lengthOf σ p1))] [] (jv_wr σ 4 24 p1 p2)
  refine jv_iload_n (x := (f_X3_lengthOf σ p1)) (pc' := 16) hE dX3_changeLength_15 rfl 3 rfl rfl ?_
  cases h
  exact hret _ _ dX3_changeLength_16
noncomputable def f_X3_switchEdge (σ : jv_S) (p1 : Int32) : Option (Bool × jv_S) := jv_bd (f_X3_listOutEdges (jv_si σ 1 9 ((σ.1 1 9) ^^^ ((1 : Int32) <<< (p1 &&& 31))))) (fun q1 => some ((f_X7_hasBit q1 (q1.1 1 9) p1), q1))
set_option maxRecDepth 100000 in
set_option maxHeartbeats 4000000 in
theorem ok_X3_switchEdge {G : jv_G} {l : Launch} {σ : jv_S} {p1 : Int32} {r : Bool × jv_S} (h : f_X3_switchEdge σ p1 = some r) : jv_Cn G l 5 M_X3_switchEdge [.ref 1, .int p1] σ (some (.int (jv_b r.1))) r.2 := by
  refine jv_of (L0 := [some (.ref 1), some (.int p1)]) (by decide +kernel) (Nat.le_of_ble_eq_true rfl) rfl (jv_okZ _) (fun E e1 e2 hE hret => ?_)
  unfold f_X3_switchEdge at h
  refine jv_aload_n (x := 1) (pc' := 1) hE dX3_switchEdge_0 rfl 0 rfl rfl ?_
  refine jv_dup (pc' := 2) hE dX3_switchEdge_1 rfl rfl ?_
  refine jv_get (v := .int (σ.1 1 9)) (pc' := 5) hE dX3_switchEdge_2 rfl lF_X3_40 rfl rfl rfl ?_
  refine jv_iconst (v := (1 : Int32)) (pc' := 6) hE dX3_switchEdge_5 rfl (by decide) ?_
  refine jv_iload_n (x := p1) (pc' := 7) hE dX3_switchEdge_6 rfl 1 rfl rfl ?_
  refine jv_ishl (x := (1 : Int32)) (y := p1) (pc' := 8) hE dX3_switchEdge_7 rfl ?_
  refine jv_ixor (x := (σ.1 1 9)) (y := ((1 : Int32) <<< (p1 &&& 31))) (pc' := 9) hE dX3_switchEdge_8 rfl ?_
  refine jv_puti (x := ((σ.1 1 9) ^^^ ((1 : Int32) <<< (p1 &&& 31)))) (pc' := 12) hE dX3_switchEdge_9 rfl lP_X3_40 rfl rfl rfl rfl ?_
  refine jv_aload_n (x := 1) (pc' := 13) hE dX3_switchEdge_12 rfl 0 rfl rfl ?_
  obtain ⟨q1, hq1, h⟩ := jv_bd_some h
  refine jv_callV (pc' := 16) (o := none) (σ' := q1) hE dX3_switchEdge_13 rfl lV_X3_49 (ok_X3_listOutEdges hq1) rfl rfl rfl (by decide) rfl (Nat.le_of_ble_eq_true rfl) ?_
  show jv_V E 16 [some (.ref 1), some (.int p1)] [] q1
  refine jv_aload_n (x := 1) (pc' := 17) hE dX3_switchEdge_16 rfl 0 rfl rfl ?_
  refine jv_get (v := .int (q1.1 1 9)) (pc' := 20) hE dX3_switchEdge_17 rfl lF_X3_40 rfl rfl rfl ?_
  refine jv_iload_n (x := p1) (pc' := 21) hE dX3_switchEdge_20 rfl 1 rfl rfl ?_
  refine jv_callN (pc' := 24) (o := some (.int (jv_b (f_X7_hasBit q1 (q1.1 1 9) p1)))) (σ' := q1) hE dX3_switchEdge_21 rfl lN_X3_60 (ok_X7_hasBit rfl) rfl (by decide) rfl (Nat.le_of_ble_eq_true rfl) ?_
  show jv_V E 24 [some (.ref 1), some (.int p1)] [.int (jv_b (f_X7_hasBit q1 (q1.1 1 9) p1))] q1
  cases h
  exact hret _ _ dX3_switchEdge_24
noncomputable def f_X3_switchNode (σ : jv_S) (p1 : Int32) : Option (Bool × jv_S) := jv_bd (f_X3_listOutEdges (jv_si σ 1 8 ((σ.1 1 8) ^^^ ((1 : Int32) <<< (p1 &&& 31))))) (fun q1 => some ((f_X7_hasBit q1 (q1.1 1 8) p1), q1))
set_option maxRecDepth 100000 in
set_option maxHeartbeats 4000000 in
theorem ok_X3_switchNode {G : jv_G} {l : Launch} {σ : jv_S} {p1 : Int32} {r : Bool × jv_S} (h : f_X3_switchNode σ p1 = some r) : jv_Cn G l 5 M_X3_switchNode [.ref 1, .int p1] σ (some (.int (jv_b r.1))) r.2 := by
  refine jv_of (L0 := [some (.ref 1), some (.int p1)]) (by decide +kernel) (Nat.le_of_ble_eq_true rfl) rfl (jv_okZ _) (fun E e1 e2 hE hret => ?_)
  unfold f_X3_switchNode at h
  refine jv_aload_n (x := 1) (pc' := 1) hE dX3_switchNode_0 rfl 0 rfl rfl ?_
  refine jv_dup (pc' := 2) hE dX3_switchNode_1 rfl rfl ?_
  refine jv_get (v := .int (σ.1 1 8)) (pc' := 5) hE dX3_switchNode_2 rfl lF_X3_37 rfl rfl rfl ?_
  refine jv_iconst (v := (1 : Int32)) (pc' := 6) hE dX3_switchNode_5 rfl (by decide) ?_
  refine jv_iload_n (x := p1) (pc' := 7) hE dX3_switchNode_6 rfl 1 rfl rfl ?_
  refine jv_ishl (x := (1 : Int32)) (y := p1) (pc' := 8) hE dX3_switchNode_7 rfl ?_
  refine jv_ixor (x := (σ.1 1 8)) (y := ((1 : Int32) <<< (p1 &&& 31))) (pc' := 9) hE dX3_switchNode_8 rfl ?_
  refine jv_puti (x := ((σ.1 1 8) ^^^ ((1 : Int32) <<< (p1 &&& 31)))) (pc' := 12) hE dX3_switchNode_9 rfl lP_X3_37 rfl rfl rfl rfl ?_
  refine jv_aload_n (x := 1) (pc' := 13) hE dX3_switchNode_12 rfl 0 rfl rfl ?_
  obtain ⟨q1, hq1, h⟩ := jv_bd_some h
  refine jv_callV (pc' := 16) (o := none) (σ' := q1) hE dX3_switchNode_13 rfl lV_X3_49 (ok_X3_listOutEdges hq1) rfl rfl rfl (by decide) rfl (Nat.le_of_ble_eq_true rfl) ?_
  show jv_V E 16 [some (.ref 1), some (.int p1)] [] q1
  refine jv_aload_n (x := 1) (pc' := 17) hE dX3_switchNode_16 rfl 0 rfl rfl ?_
  refine jv_get (v := .int (q1.1 1 8)) (pc' := 20) hE dX3_switchNode_17 rfl lF_X3_37 rfl rfl rfl ?_
  refine jv_iload_n (x := p1) (pc' := 21) hE dX3_switchNode_20 rfl 1 rfl rfl ?_
  refine jv_callN (pc' := 24) (o := some (.int (jv_b (f_X7_hasBit q1 (q1.1 1 8) p1)))) (σ' := q1) hE dX3_switchNode_21 rfl lN_X3_60 (ok_X7_hasBit rfl) rfl (by decide) rfl (Nat.le_of_ble_eq_true rfl) ?_
  show jv_V E 24 [some (.ref 1), some (.int p1)] [.int (jv_b (f_X7_hasBit q1 (q1.1 1 8) p1))] q1
  cases h
  exact hret _ _ dX3_switchNode_24
noncomputable def f_X3_isForbidden (σ : jv_S) (p1 : Int32) (p2 : Int32) : Bool := (f_X7_hasBit σ (jv_rd (σ.1 5) 24 0 p1) p2)
set_option maxRecDepth 100000 in
set_option maxHeartbeats 4000000 in
theorem ok_X3_isForbidden {G : jv_G} {l : Launch} {σ : jv_S} {p1 : Int32} {p2 : Int32} {r : Bool} (h : f_X3_isForbidden σ p1 p2 = r) : jv_Cn G l 2 M_X3_isForbidden [.ref 1, .int p1, .int p2] σ (some (.int (jv_b r))) σ := by
  refine jv_of (L0 := [some (.ref 1), some (.int p1), some (.int p2)]) (by decide +kernel) (Nat.le_of_ble_eq_true rfl) rfl (jv_okZ _) (fun E e1 e2 hE hret => ?_)
  unfold f_X3_isForbidden at h
  refine jv_aload_n (x := 1) (pc' := 1) hE dX3_isForbidden_0 rfl 0 rfl rfl ?_
  refine jv_get (v := .ref 5) (pc' := 4) hE dX3_isForbidden_1 rfl lF_X3_21 rfl rfl rfl ?_
  refine jv_iload_n (x := p1) (pc' := 5) hE dX3_isForbidden_4 rfl 1 rfl rfl ?_
  refine jv_callN (pc' := 8) (o := some (.int (jv_rd (σ.1 5) 24 0 p1))) (σ' := σ) hE dX3_isForbidden_5 rfl lN_X3_64 (ok_X7_at (n := 24) (by decide) rfl rfl) rfl (by decide) rfl (Nat.le_of_ble_eq_true rfl) ?_
  show jv_V E 8 [some (.ref 1), some (.int p1), some (.int p2)] [.int (jv_rd (σ.1 5) 24 0 p1)] σ
  refine jv_iload_n (x := p2) (pc' := 9) hE dX3_isForbidden_8 rfl 2 rfl rfl ?_
  refine jv_callN (pc' := 12) (o := some (.int (jv_b (f_X7_hasBit σ (jv_rd (σ.1 5) 24 0 p1) p2)))) (σ' := σ) hE dX3_isForbidden_9 rfl lN_X3_60 (ok_X7_hasBit rfl) rfl (by decide) rfl (Nat.le_of_ble_eq_true rfl) ?_
  show jv_V E 12 [some (.ref 1), some (.int p1), some (.int p2)] [.int (jv_b (f_X7_hasBit σ (jv_rd (σ.1 5) 24 0 p1) p2))] σ
  cases h
  exact hret _ _ dX3_isForbidden_12
noncomputable def f_X3_switchTurn (σ : jv_S) (p1 : Int32) (p2 : Int32) : Bool × jv_S := ((f_X3_isForbidden (jv_wr σ 5 24 p1 ((jv_rd (σ.1 5) 24 0 p1) ^^^ ((1 : Int32) <<< (p2 &&& 31)))) p1 p2), (jv_wr σ 5 24 p1 ((jv_rd (σ.1 5) 24 0 p1) ^^^ ((1 : Int32) <<< (p2 &&& 31)))))
set_option maxRecDepth 100000 in
set_option maxHeartbeats 4000000 in
theorem ok_X3_switchTurn {G : jv_G} {l : Launch} {σ : jv_S} {p1 : Int32} {p2 : Int32} {r : Bool × jv_S} (h : f_X3_switchTurn σ p1 p2 = r) : jv_Cn G l 3 M_X3_switchTurn [.ref 1, .int p1, .int p2] σ (some (.int (jv_b r.1))) r.2 := by
  refine jv_of (L0 := [some (.ref 1), some (.int p1), some (.int p2)]) (by decide +kernel) (Nat.le_of_ble_eq_true rfl) rfl (jv_okZ _) (fun E e1 e2 hE hret => ?_)
  unfold f_X3_switchTurn at h
  refine jv_aload_n (x := 1) (pc' := 1) hE dX3_switchTurn_0 rfl 0 rfl rfl ?_
  refine jv_get (v := .ref 5) (pc' := 4) hE dX3_switchTurn_1 rfl lF_X3_21 rfl rfl rfl ?_
  refine jv_iload_n (x := p1) (pc' := 5) hE dX3_switchTurn_4 rfl 1 rfl rfl ?_
  refine jv_aload_n (x := 1) (pc' := 6) hE dX3_switchTurn_5 rfl 0 rfl rfl ?_
  refine jv_get (v := .ref 5) (pc' := 9) hE dX3_switchTurn_6 rfl lF_X3_21 rfl rfl rfl ?_
  refine jv_iload_n (x := p1) (pc' := 10) hE dX3_switchTurn_9 rfl 1 rfl rfl ?_
  refine jv_callN (pc' := 13) (o := some (.int (jv_rd (σ.1 5) 24 0 p1))) (σ' := σ) hE dX3_switchTurn_10 rfl lN_X3_64 (ok_X7_at (n := 24) (by decide) rfl rfl) rfl (by decide) rfl (Nat.le_of_ble_eq_true rfl) ?_
  show jv_V E 13 [some (.ref 1), some (.int p1), some (.int p2)] [.int (jv_rd (σ.1 5) 24 0 p1), .int p1, .ref 5] σ
  refine jv_iconst (v := (1 : Int32)) (pc' := 14) hE dX3_switchTurn_13 rfl (by decide) ?_
  refine jv_iload_n (x := p2) (pc' := 15) hE dX3_switchTurn_14 rfl 2 rfl rfl ?_
  refine jv_ishl (x := (1 : Int32)) (y := p2) (pc' := 16) hE dX3_switchTurn_15 rfl ?_
  refine jv_ixor (x := (jv_rd (σ.1 5) 24 0 p1)) (y := ((1 : Int32) <<< (p2 &&& 31))) (pc' := 17) hE dX3_switchTurn_16 rfl ?_
  refine jv_callN (pc' := 20) (o := none) (σ' := (jv_wr σ 5 24 p1 ((jv_rd (σ.1 5) 24 0 p1) ^^^ ((1 : Int32) <<< (p2 &&& 31))))) hE dX3_switchTurn_17 rfl lN_X3_52 (ok_X7_put (n := 24) (by decide) rfl rfl) rfl (by decide) rfl (Nat.le_of_ble_eq_true rfl) ?_
  show jv_V E 20 [some (.ref 1), some (.int p1), some (.int p2)] [] (jv_wr σ 5 24 p1 ((jv_rd (σ.1 5) 24 0 p1) ^^^ ((1 : Int32) <<< (p2 &&& 31))))
  refine jv_aload_n (x := 1) (pc' := 21) hE dX3_switchTurn_20 rfl 0 rfl rfl ?_
  refine jv_iload_n (x := p1) (pc' := 22) hE dX3_switchTurn_21 rfl 1 rfl rfl ?_
  refine jv_iload_n (x := p2) (pc' := 23) hE dX3_switchTurn_22 rfl 2 rfl rfl ?_
  refine jv_callV (pc' := 26) (o := some (.int (jv_b (f_X3_isForbidden (jv_wr σ 5 24 p1 ((jv_rd (σ.1 5) 24 0 p1) ^^^ ((1 : Int32) <<< (p2 &&& 31)))) p1 p2)))) (σ' := (jv_wr σ 5 24 p1 ((jv_rd (σ.1 5) 24 0 p1) ^^^ ((1 : Int32) <<< (p2 &&& 31))))) hE dX3_switchTurn_23 rfl lV_X3_68 (ok_X3_isForbidden rfl) rfl rfl rfl (by decide) rfl (Nat.le_of_ble_eq_true rfl) ?_
  show jv_V E 26 [some (.ref 1), some (.int p1), some (.int p2)] [.int (jv_b (f_X3_isForbidden (jv_wr σ 5 24 p1 ((jv_rd (σ.1 5) 24 0 p1) ^^^ ((1 : Int32) <<< (p2 &&& 31)))) p1 p2))] (jv_wr σ 5 24 p1 ((jv_rd (σ.1 5) 24 0 p1) ^^^ ((1 : Int32) <<< (p2 &&& 31))))
  cases h
  exact hret _ _ dX3_switchTurn_26
noncomputable def f_X3_outEdge (σ : jv_S) (p1 : Int32) : Int32 := (jv_rd (σ.1 6) 24 0 p1)
set_option maxRecDepth 100000 in
set_option maxHeartbeats 4000000 in
theorem ok_X3_outEdge {G : jv_G} {l : Launch} {σ : jv_S} {p1 : Int32} {r : Int32} (h : f_X3_outEdge σ p1 = r) : jv_Cn G l 2 M_X3_outEdge [.ref 1, .int p1] σ (some (.int r)) σ := by
  refine jv_of (L0 := [some (.ref 1), some (.int p1)]) (by decide +kernel) (Nat.le_of_ble_eq_true rfl) rfl (jv_okI _) (fun E e1 e2 hE hret => ?_)
  unfold f_X3_outEdge at h
  refine jv_aload_n (x := 1) (pc' := 1) hE dX3_outEdge_0 rfl 0 rfl rfl ?_
  refine jv_get (v := .ref 6) (pc' := 4) hE dX3_outEdge_1 rfl lF_X3_24 rfl rfl rfl ?_
  refine jv_iload_n (x := p1) (pc' := 5) hE dX3_outEdge_4 rfl 1 rfl rfl ?_
  refine jv_callN (pc' := 8) (o := some (.int (jv_rd (σ.1 6) 24 0 p1))) (σ' := σ) hE dX3_outEdge_5 rfl lN_X3_64 (ok_X7_at (n := 24) (by decide) rfl rfl) rfl (by decide) rfl (Nat.le_of_ble_eq_true rfl) ?_
  show jv_V E 8 [some (.ref 1), some (.int p1)] [.int (jv_rd (σ.1 6) 24 0 p1)] σ
  cases h
  exact hret _ _ dX3_outEdge_8
noncomputable def f_X3_outStart (σ : jv_S) (p1 : Int32) : Int32 := (jv_rd (σ.1 7) 11 0 p1)
set_option maxRecDepth 100000 in
set_option maxHeartbeats 4000000 in
theorem ok_X3_outStart {G : jv_G} {l : Launch} {σ : jv_S} {p1 : Int32} {r : Int32} (h : f_X3_outStart σ p1 = r) : jv_Cn G l 2 M_X3_outStart [.ref 1, .int p1] σ (some (.int r)) σ := by
  refine jv_of (L0 := [some (.ref 1), some (.int p1)]) (by decide +kernel) (Nat.le_of_ble_eq_true rfl) rfl (jv_okI _) (fun E e1 e2 hE hret => ?_)
  unfold f_X3_outStart at h
  refine jv_aload_n (x := 1) (pc' := 1) hE dX3_outStart_0 rfl 0 rfl rfl ?_
  refine jv_get (v := .ref 7) (pc' := 4) hE dX3_outStart_1 rfl lF_X3_27 rfl rfl rfl ?_
  refine jv_iload_n (x := p1) (pc' := 5) hE dX3_outStart_4 rfl 1 rfl rfl ?_
  refine jv_callN (pc' := 8) (o := some (.int (jv_rd (σ.1 7) 11 0 p1))) (σ' := σ) hE dX3_outStart_5 rfl lN_X3_64 (ok_X7_at (n := 11) (by decide) rfl rfl) rfl (by decide) rfl (Nat.le_of_ble_eq_true rfl) ?_
  show jv_V E 8 [some (.ref 1), some (.int p1)] [.int (jv_rd (σ.1 7) 11 0 p1)] σ
  cases h
  exact hret _ _ dX3_outStart_8
noncomputable def f_X3_outEnd (σ : jv_S) (p1 : Int32) : Int32 := (jv_rd (σ.1 7) 11 0 (p1 + (1 : Int32)))
set_option maxRecDepth 100000 in
set_option maxHeartbeats 4000000 in
theorem ok_X3_outEnd {G : jv_G} {l : Launch} {σ : jv_S} {p1 : Int32} {r : Int32} (h : f_X3_outEnd σ p1 = r) : jv_Cn G l 2 M_X3_outEnd [.ref 1, .int p1] σ (some (.int r)) σ := by
  refine jv_of (L0 := [some (.ref 1), some (.int p1)]) (by decide +kernel) (Nat.le_of_ble_eq_true rfl) rfl (jv_okI _) (fun E e1 e2 hE hret => ?_)
  unfold f_X3_outEnd at h
  refine jv_aload_n (x := 1) (pc' := 1) hE dX3_outEnd_0 rfl 0 rfl rfl ?_
  refine jv_get (v := .ref 7) (pc' := 4) hE dX3_outEnd_1 rfl lF_X3_27 rfl rfl rfl ?_
  refine jv_iload_n (x := p1) (pc' := 5) hE dX3_outEnd_4 rfl 1 rfl rfl ?_
  refine jv_iconst (v := (1 : Int32)) (pc' := 6) hE dX3_outEnd_5 rfl (by decide) ?_
  refine jv_iadd (x := p1) (y := (1 : Int32)) (pc' := 7) hE dX3_outEnd_6 rfl ?_
  refine jv_callN (pc' := 10) (o := some (.int (jv_rd (σ.1 7) 11 0 (p1 + (1 : Int32))))) (σ' := σ) hE dX3_outEnd_7 rfl lN_X3_64 (ok_X7_at (n := 11) (by decide) rfl rfl) rfl (by decide) rfl (Nat.le_of_ble_eq_true rfl) ?_
  show jv_V E 10 [some (.ref 1), some (.int p1)] [.int (jv_rd (σ.1 7) 11 0 (p1 + (1 : Int32)))] σ
  cases h
  exact hret _ _ dX3_outEnd_10
end
section
noncomputable def f_X2_ofNode (a : Nat) (σ : jv_S) (p1 : Int32) : Int32 := (jv_rd (σ.1 a) 10 0 p1)
set_option maxRecDepth 100000 in
set_option maxHeartbeats 4000000 in
theorem ok_X2_ofNode_8 {G : jv_G} {l : Launch} {σ : jv_S} {p1 : Int32} {r : Int32} (h : f_X2_ofNode 9 σ p1 = r) : jv_Cn G l 2 M_X2_ofNode [.ref 8, .int p1] σ (some (.int r)) σ := by
  refine jv_of (L0 := [some (.ref 8), some (.int p1)]) (by decide +kernel) (Nat.le_of_ble_eq_true rfl) rfl (jv_okI _) (fun E e1 e2 hE hret => ?_)
  unfold f_X2_ofNode at h
  refine jv_aload_n (x := 8) (pc' := 1) hE dX2_ofNode_0 rfl 0 rfl rfl ?_
  refine jv_get (v := .ref 9) (pc' := 4) hE dX2_ofNode_1 rfl lF_X2_9 rfl rfl rfl ?_
  refine jv_iload_n (x := p1) (pc' := 5) hE dX2_ofNode_4 rfl 1 rfl rfl ?_
  refine jv_callN (pc' := 8) (o := some (.int (jv_rd (σ.1 9) 10 0 p1))) (σ' := σ) hE dX2_ofNode_5 rfl lN_X2_56 (ok_X7_at (n := 10) (by decide) rfl rfl) rfl (by decide) rfl (Nat.le_of_ble_eq_true rfl) ?_
  show jv_V E 8 [some (.ref 8), some (.int p1)] [.int (jv_rd (σ.1 9) 10 0 p1)] σ
  cases h
  exact hret _ _ dX2_ofNode_8
set_option maxRecDepth 100000 in
set_option maxHeartbeats 4000000 in
theorem ok_X2_ofNode_12 {G : jv_G} {l : Launch} {σ : jv_S} {p1 : Int32} {r : Int32} (h : f_X2_ofNode 13 σ p1 = r) : jv_Cn G l 2 M_X2_ofNode [.ref 12, .int p1] σ (some (.int r)) σ := by
  refine jv_of (L0 := [some (.ref 12), some (.int p1)]) (by decide +kernel) (Nat.le_of_ble_eq_true rfl) rfl (jv_okI _) (fun E e1 e2 hE hret => ?_)
  unfold f_X2_ofNode at h
  refine jv_aload_n (x := 12) (pc' := 1) hE dX2_ofNode_0 rfl 0 rfl rfl ?_
  refine jv_get (v := .ref 13) (pc' := 4) hE dX2_ofNode_1 rfl lF_X2_9 rfl rfl rfl ?_
  refine jv_iload_n (x := p1) (pc' := 5) hE dX2_ofNode_4 rfl 1 rfl rfl ?_
  refine jv_callN (pc' := 8) (o := some (.int (jv_rd (σ.1 13) 10 0 p1))) (σ' := σ) hE dX2_ofNode_5 rfl lN_X2_56 (ok_X7_at (n := 10) (by decide) rfl rfl) rfl (by decide) rfl (Nat.le_of_ble_eq_true rfl) ?_
  show jv_V E 8 [some (.ref 12), some (.int p1)] [.int (jv_rd (σ.1 13) 10 0 p1)] σ
  cases h
  exact hret _ _ dX2_ofNode_8
set_option maxRecDepth 100000 in
set_option maxHeartbeats 4000000 in
theorem ok_X2_ofNode_15 {G : jv_G} {l : Launch} {σ : jv_S} {p1 : Int32} {r : Int32} (h : f_X2_ofNode 16 σ p1 = r) : jv_Cn G l 2 M_X2_ofNode [.ref 15, .int p1] σ (some (.int r)) σ := by
  refine jv_of (L0 := [some (.ref 15), some (.int p1)]) (by decide +kernel) (Nat.le_of_ble_eq_true rfl) rfl (jv_okI _) (fun E e1 e2 hE hret => ?_)
  unfold f_X2_ofNode at h
  refine jv_aload_n (x := 15) (pc' := 1) hE dX2_ofNode_0 rfl 0 rfl rfl ?_
  refine jv_get (v := .ref 16) (pc' := 4) hE dX2_ofNode_1 rfl lF_X2_9 rfl rfl rfl ?_
  refine jv_iload_n (x := p1) (pc' := 5) hE dX2_ofNode_4 rfl 1 rfl rfl ?_
  refine jv_callN (pc' := 8) (o := some (.int (jv_rd (σ.1 16) 10 0 p1))) (σ' := σ) hE dX2_ofNode_5 rfl lN_X2_56 (ok_X7_at (n := 10) (by decide) rfl rfl) rfl (by decide) rfl (Nat.le_of_ble_eq_true rfl) ?_
  show jv_V E 8 [some (.ref 15), some (.int p1)] [.int (jv_rd (σ.1 16) 10 0 p1)] σ
  cases h
  exact hret _ _ dX2_ofNode_8
noncomputable def f_X2_shortenAll_lp4 (a : Nat) : Nat → Bool → Int32 → jv_S → Option (Bool × Int32 × jv_S)
  | 0, _, _, _ => none
  | n + 1, v1, v2, σ => if (f_X3_usableTotal σ) ≤ v2 then (some (v1, v2, σ)) else (jv_lt (if (f_X2_ofNode a σ (f_X3_tailOf σ (f_X3_outEdge σ v2))) ≤ ((f_X3_lengthOf σ (f_X3_outEdge σ v2)) + (f_X2_ofNode a σ (f_X3_headOf σ (f_X3_outEdge σ v2)))) then ((v1, σ)) else ((true, (jv_wr σ a 10 (f_X3_tailOf σ (f_X3_outEdge σ v2)) ((f_X3_lengthOf σ (f_X3_outEdge σ v2)) + (f_X2_ofNode a σ (f_X3_headOf σ (f_X3_outEdge σ v2)))))))) (fun q3 => f_X2_shortenAll_lp4 a n q3.1 (v2 + (1 : Int32)) q3.2))
noncomputable def f_X2_shortenAll (a : Nat) (σ : jv_S) : Option (Bool × jv_S) := jv_bd (f_X2_shortenAll_lp4 a jv_fuel false (0 : Int32) σ) (fun q4 => some (q4.1, q4.2.2))
set_option maxRecDepth 100000 in
set_option maxHeartbeats 4000000 in
theorem lp_X2_shortenAll_8_4 {E : jv_E} (hE : jv_Cx E RX2 cX2_shortenAll 5 3) : ∀ (n : Nat) (v1 : Bool) (v2 : Int32) (σ : jv_S) (q : Bool × Int32 × jv_S), f_X2_shortenAll_lp4 9 n v1 v2 σ = some q → (jv_V E 89 [none, some (.int (jv_b q.1)), none, none, none] [] q.2.2) → jv_V E 4 [some (.ref 8), some (.int (jv_b v1)), some (.int v2), none, none] [] σ := by
  intro n
  induction n with
  | zero =>
    intro v1 v2 σ q h
    rw [f_X2_shortenAll_lp4] at h
    cases h
  | succ n ih =>
    intro v1 v2 σ q h hk
    rw [f_X2_shortenAll_lp4] at h
    refine jv_iload_n (x := v2) (pc' := 5) hE dX2_shortenAll_4 rfl 2 rfl rfl ?_
    refine jv_aload_n (x := 8) (pc' := 6) hE dX2_shortenAll_5 rfl 0 rfl rfl ?_
    refine jv_get (v := .ref 1) (pc' := 9) hE dX2_shortenAll_6 rfl lF_X2_15 rfl rfl rfl ?_
    refine jv_callV (pc' := 12) (o := some (.int (f_X3_usableTotal σ))) (σ' := σ) hE dX2_shortenAll_9 rfl lV_X2_34 (ok_X3_usableTotal rfl) rfl rfl rfl (by decide) rfl (Nat.le_of_ble_eq_true rfl) ?_
    show jv_V E 12 [some (.ref 8), some (.int (jv_b v1)), some (.int v2), none, none] [.int (f_X3_usableTotal σ), .int v2] σ
    refine jv_icmp_ge (x := v2) (y := (f_X3_usableTotal σ)) (tgt := 89) (pc' := 15) hE dX2_shortenAll_12 (by decide) rfl (fun c1 => ?_) (fun c1 => ?_)
    · rw [if_pos c1] at h
      cases h
      exact jv_forget [false, true, false, true, true] hk
    · rw [if_neg c1] at h
      refine jv_aload_n (x := 8) (pc' := 16) hE dX2_shortenAll_15 rfl 0 rfl rfl ?_
      refine jv_get (v := .ref 1) (pc' := 19) hE dX2_shortenAll_16 rfl lF_X2_15 rfl rfl rfl ?_
      refine jv_iload_n (x := v2) (pc' := 20) hE dX2_shortenAll_19 rfl 2 rfl rfl ?_
      refine jv_callV (pc' := 23) (o := some (.int (f_X3_outEdge σ v2))) (σ' := σ) hE dX2_shortenAll_20 rfl lV_X2_40 (ok_X3_outEdge rfl) rfl rfl rfl (by decide) rfl (Nat.le_of_ble_eq_true rfl) ?_
      show jv_V E 23 [some (.ref 8), some (.int (jv_b v1)), some (.int v2), none, none] [.int (f_X3_outEdge σ v2)] σ
      refine jv_istore_n (x := (f_X3_outEdge σ v2)) (L' := [some (.ref 8), some (.int (jv_b v1)), some (.int v2), some (.int (f_X3_outEdge σ v2)), none]) (pc' := 24) hE dX2_shortenAll_23 rfl 3 rfl (by decide) rfl rfl ?_
      refine jv_aload_n (x := 8) (pc' := 25) hE dX2_shortenAll_24 rfl 0 rfl rfl ?_
      refine jv_get (v := .ref 1) (pc' := 28) hE dX2_shortenAll_25 rfl lF_X2_15 rfl rfl rfl ?_
      refine jv_iload_n (x := (f_X3_outEdge σ v2)) (pc' := 29) hE dX2_shortenAll_28 rfl 3 rfl rfl ?_
      refine jv_callV (pc' := 32) (o := some (.int (f_X3_lengthOf σ (f_X3_outEdge σ v2)))) (σ' := σ) hE dX2_shortenAll_29 rfl lV_X2_44 (ok_X3_lengthOf rfl) rfl rfl rfl (by decide) rfl (Nat.le_of_ble_eq_true rfl) ?_
      show jv_V E 32 [some (.ref 8), some (.int (jv_b v1)), some (.int v2), some (.int (f_X3_outEdge σ v2)), none] [.int (f_X3_lengthOf σ (f_X3_outEdge σ v2))] σ
      refine jv_aload_n (x := 8) (pc' := 33) hE dX2_shortenAll_32 rfl 0 rfl rfl ?_
      refine jv_aload_n (x := 8) (pc' := 34) hE dX2_shortenAll_33 rfl 0 rfl rfl ?_
      refine jv_get (v := .ref 1) (pc' := 37) hE dX2_shortenAll_34 rfl lF_X2_15 rfl rfl rfl ?_
      refine jv_iload_n (x := (f_X3_outEdge σ v2)) (pc' := 38) hE dX2_shortenAll_37 rfl 3 rfl rfl ?_
      refine jv_callV (pc' := 41) (o := some (.int (f_X3_headOf σ (f_X3_outEdge σ v2)))) (σ' := σ) hE dX2_shortenAll_38 rfl lV_X2_47 (ok_X3_headOf rfl) rfl rfl rfl (by decide) rfl (Nat.le_of_ble_eq_true rfl) ?_
      show jv_V E 41 [some (.ref 8), some (.int (jv_b v1)), some (.int v2), some (.int (f_X3_outEdge σ v2)), none] [.int (f_X3_headOf σ (f_X3_outEdge σ v2)), .ref 8, .int (f_X3_lengthOf σ (f_X3_outEdge σ v2))] σ
      refine jv_callV (pc' := 44) (o := some (.int (f_X2_ofNode 9 σ (f_X3_headOf σ (f_X3_outEdge σ v2))))) (σ' := σ) hE dX2_shortenAll_41 rfl lV_X2_50 (ok_X2_ofNode_8 rfl) rfl rfl rfl (by decide) rfl (Nat.le_of_ble_eq_true rfl) ?_
      show jv_V E 44 [some (.ref 8), some (.int (jv_b v1)), some (.int v2), some (.int (f_X3_outEdge σ v2)), none] [.int (f_X2_ofNode 9 σ (f_X3_headOf σ (f_X3_outEdge σ v2))), .int (f_X3_lengthOf σ (f_X3_outEdge σ v2))] σ
      refine jv_iadd (x := (f_X3_lengthOf σ (f_X3_outEdge σ v2))) (y := (f_X2_ofNode 9 σ (f_X3_headOf σ (f_X3_outEdge σ v2)))) (pc' := 45) hE dX2_shortenAll_44 rfl ?_
      refine jv_istore (x := ((f_X3_lengthOf σ (f_X3_outEdge σ v2)) + (f_X2_ofNode 9 σ (f_X3_headOf σ (f_X3_outEdge σ v2))))) (L' := [some (.ref 8), some (.int (jv_b v1)), some (.int v2), some (.int (f_X3_outEdge σ v2)), some (.int ((f_X3_lengthOf σ (f_X3_outEdge σ v2)) + (f_X2_ofNode 9 σ (f_X3_headOf σ (f_X3_outEdge σ v2)))))]) (pc' := 47) hE dX2_shortenAll_45 rfl (by decide) rfl rfl ?_
      refine jv_iload (x := ((f_X3_lengthOf σ (f_X3_outEdge σ v2)) + (f_X2_ofNode 9 σ (f_X3_headOf σ (f_X3_outEdge σ v2))))) (pc' := 49) hE dX2_shortenAll_47 rfl rfl ?_
      refine jv_aload_n (x := 8) (pc' := 50) hE dX2_shortenAll_49 rfl 0 rfl rfl ?_
      refine jv_aload_n (x := 8) (pc' := 51) hE dX2_shortenAll_50 rfl 0 rfl rfl ?_
      refine jv_get (v := .ref 1) (pc' := 54) hE dX2_shortenAll_51 rfl lF_X2_15 rfl rfl rfl ?_
      refine jv_iload_n (x := (f_X3_outEdge σ v2)) (pc' := 55) hE dX2_shortenAll_54 rfl 3 rfl rfl ?_
      refine jv_callV (pc' := 58) (o := some (.int (f_X3_tailOf σ (f_X3_outEdge σ v2)))) (σ' := σ) hE dX2_shortenAll_55 rfl lV_X2_53 (ok_X3_tailOf rfl) rfl rfl rfl (by decide) rfl (Nat.le_of_ble_eq_true rfl) ?_
      show jv_V E 58 [some (.ref 8), some (.int (jv_b v1)), some (.int v2), some (.int (f_X3_outEdge σ v2)), some (.int ((f_X3_lengthOf σ (f_X3_outEdge σ v2)) + (f_X2_ofNode 9 σ (f_X3_headOf σ (f_X3_outEdge σ v2)))))] [.int (f_X3_tailOf σ (f_X3_outEdge σ v2)), .ref 8, .int ((f_X3_lengthOf σ (f_X3_outEdge σ v2)) + (f_X2_ofNode 9 σ (f_X3_headOf σ (f_X3_outEdge σ v2))))] σ
      refine jv_callV (pc' := 61) (o := some (.int (f_X2_ofNode 9 σ (f_X3_tailOf σ (f_X3_outEdge σ v2))))) (σ' := σ) hE dX2_shortenAll_58 rfl lV_X2_50 (ok_X2_ofNode_8 rfl) rfl rfl rfl (by decide) rfl (Nat.le_of_ble_eq_true rfl) ?_
      show jv_V E 61 [some (.ref 8), some (.int (jv_b v1)), some (.int v2), some (.int (f_X3_outEdge σ v2)), some (.int ((f_X3_lengthOf σ (f_X3_outEdge σ v2)) + (f_X2_ofNode 9 σ (f_X3_headOf σ (f_X3_outEdge σ v2)))))] [.int (f_X2_ofNode 9 σ (f_X3_tailOf σ (f_X3_outEdge σ v2))), .int ((f_X3_lengthOf σ (f_X3_outEdge σ v2)) + (f_X2_ofNode 9 σ (f_X3_headOf σ (f_X3_outEdge σ v2))))] σ
      obtain ⟨q3, hq3, h⟩ := jv_lt_eq h
      have kq3 : jv_V E 83 [some (.ref 8), some (.int (jv_b q3.1)), some (.int v2), none, none] [] q3.2 := by
        refine jv_iinc (x := v2) (v := (v2 + (1 : Int32))) (L' := [some (.ref 8), some (.int (jv_b q3.1)), some (.int (v2 + (1 : Int32))), none, none]) (pc' := 86) hE dX2_shortenAll_83 rfl rfl rfl (by decide) rfl rfl ?_
        refine jv_goto (tgt := 4) hE dX2_shortenAll_86 (by decide) ?_
        exact jv_forget [true, true, true, true, true] (ih q3.1 (v2 + (1 : Int32)) q3.2 _ h hk)
      refine jv_icmp_ge (x := ((f_X3_lengthOf σ (f_X3_outEdge σ v2)) + (f_X2_ofNode 9 σ (f_X3_headOf σ (f_X3_outEdge σ v2))))) (y := (f_X2_ofNode 9 σ (f_X3_tailOf σ (f_X3_outEdge σ v2)))) (tgt := 83) (pc' := 64) hE dX2_shortenAll_61 (by decide) rfl (fun c2 => ?_) (fun c2 => ?_)
      · rw [if_pos c2] at hq3
        cases hq3
        exact jv_forget [true, true, true, false, false] kq3
      · rw [if_neg c2] at hq3
        refine jv_aload_n (x := 8) (pc' := 65) hE dX2_shortenAll_64 rfl 0 rfl rfl ?_
        refine jv_get (v := .ref 9) (pc' := 68) hE dX2_shortenAll_65 rfl lF_X2_9 rfl rfl rfl ?_
        refine jv_aload_n (x := 8) (pc' := 69) hE dX2_shortenAll_68 rfl 0 rfl rfl ?_
        refine jv_get (v := .ref 1) (pc' := 72) hE dX2_shortenAll_69 rfl lF_X2_15 rfl rfl rfl ?_
        refine jv_iload_n (x := (f_X3_outEdge σ v2)) (pc' := 73) hE dX2_shortenAll_72 rfl 3 rfl rfl ?_
        refine jv_callV (pc' := 76) (o := some (.int (f_X3_tailOf σ (f_X3_outEdge σ v2)))) (σ' := σ) hE dX2_shortenAll_73 rfl lV_X2_53 (ok_X3_tailOf rfl) rfl rfl rfl (by decide) rfl (Nat.le_of_ble_eq_true rfl) ?_
        show jv_V E 76 [some (.ref 8), some (.int (jv_b v1)), some (.int v2), some (.int (f_X3_outEdge σ v2)), some (.int ((f_X3_lengthOf σ (f_X3_outEdge σ v2)) + (f_X2_ofNode 9 σ (f_X3_headOf σ (f_X3_outEdge σ v2)))))] [.int (f_X3_tailOf σ (f_X3_outEdge σ v2)), .ref 9] σ
        refine jv_iload (x := ((f_X3_lengthOf σ (f_X3_outEdge σ v2)) + (f_X2_ofNode 9 σ (f_X3_headOf σ (f_X3_outEdge σ v2))))) (pc' := 78) hE dX2_shortenAll_76 rfl rfl ?_
        refine jv_callN (pc' := 81) (o := none) (σ' := (jv_wr σ 9 10 (f_X3_tailOf σ (f_X3_outEdge σ v2)) ((f_X3_lengthOf σ (f_X3_outEdge σ v2)) + (f_X2_ofNode 9 σ (f_X3_headOf σ (f_X3_outEdge σ v2)))))) hE dX2_shortenAll_78 rfl lN_X2_26 (ok_X7_put (n := 10) (by decide) rfl rfl) rfl (by decide) rfl (Nat.le_of_ble_eq_true rfl) ?_
        show jv_V E 81 [some (.ref 8), some (.int (jv_b v1)), some (.int v2), some (.int (f_X3_outEdge σ v2)), some (.int ((f_X3_lengthOf σ (f_X3_outEdge σ v2)) + (f_X2_ofNode 9 σ (f_X3_headOf σ (f_X3_outEdge σ v2)))))] [] (jv_wr σ 9 10 (f_X3_tailOf σ (f_X3_outEdge σ v2)) ((f_X3_lengthOf σ (f_X3_outEdge σ v2)) + (f_X2_ofNode 9 σ (f_X3_headOf σ (f_X3_outEdge σ v2)))))
        refine jv_iconst (v := (1 : Int32)) (pc' := 82) hE dX2_shortenAll_81 rfl (by decide) ?_
        refine jv_istore_n (x := (1 : Int32)) (L' := [some (.ref 8), some (.int (1 : Int32)), some (.int v2), some (.int (f_X3_outEdge σ v2)), some (.int ((f_X3_lengthOf σ (f_X3_outEdge σ v2)) + (f_X2_ofNode 9 σ (f_X3_headOf σ (f_X3_outEdge σ v2)))))]) (pc' := 83) hE dX2_shortenAll_82 rfl 1 rfl (by decide) rfl rfl ?_
        cases hq3
        exact jv_forget [true, true, true, false, false] kq3
set_option maxRecDepth 100000 in
set_option maxHeartbeats 4000000 in
theorem ok_X2_shortenAll_8 {G : jv_G} {l : Launch} {σ : jv_S} {r : Bool × jv_S} (h : f_X2_shortenAll 9 σ = some r) : jv_Cn G l 3 M_X2_shortenAll [.ref 8] σ (some (.int (jv_b r.1))) r.2 := by
  refine jv_of (L0 := [some (.ref 8), none, none, none, none]) (by decide +kernel) (Nat.le_of_ble_eq_true rfl) rfl (jv_okZ _) (fun E e1 e2 hE hret => ?_)
  unfold f_X2_shortenAll at h
  refine jv_iconst (v := (0 : Int32)) (pc' := 1) hE dX2_shortenAll_0 rfl (by decide) ?_
  refine jv_istore_n (x := (0 : Int32)) (L' := [some (.ref 8), some (.int (0 : Int32)), none, none, none]) (pc' := 2) hE dX2_shortenAll_1 rfl 1 rfl (by decide) rfl rfl ?_
  refine jv_iconst (v := (0 : Int32)) (pc' := 3) hE dX2_shortenAll_2 rfl (by decide) ?_
  refine jv_istore_n (x := (0 : Int32)) (L' := [some (.ref 8), some (.int (0 : Int32)), some (.int (0 : Int32)), none, none]) (pc' := 4) hE dX2_shortenAll_3 rfl 2 rfl (by decide) rfl rfl ?_
  obtain ⟨q4, hq4, h⟩ := jv_bd_some h
  refine jv_forget [true, true, true, true, true] (lp_X2_shortenAll_8_4 hE jv_fuel false (0 : Int32) σ _ hq4 ?_)
  refine jv_iload_n (x := (jv_b q4.1)) (pc' := 90) hE dX2_shortenAll_89 rfl 1 rfl rfl ?_
  cases h
  exact hret _ _ dX2_shortenAll_90
set_option maxRecDepth 100000 in
set_option maxHeartbeats 4000000 in
theorem lp_X2_shortenAll_12_4 {E : jv_E} (hE : jv_Cx E RX2 cX2_shortenAll 5 3) : ∀ (n : Nat) (v1 : Bool) (v2 : Int32) (σ : jv_S) (q : Bool × Int32 × jv_S), f_X2_shortenAll_lp4 13 n v1 v2 σ = some q → (jv_V E 89 [none, some (.int (jv_b q.1)), none, none, none] [] q.2.2) → jv_V E 4 [some (.ref 12), some (.int (jv_b v1)), some (.int v2), none, none] [] σ := by
  intro n
  induction n with
  | zero =>
    intro v1 v2 σ q h
    rw [f_X2_shortenAll_lp4] at h
    cases h
  | succ n ih =>
    intro v1 v2 σ q h hk
    rw [f_X2_shortenAll_lp4] at h
    refine jv_iload_n (x := v2) (pc' := 5) hE dX2_shortenAll_4 rfl 2 rfl rfl ?_
    refine jv_aload_n (x := 12) (pc' := 6) hE dX2_shortenAll_5 rfl 0 rfl rfl ?_
    refine jv_get (v := .ref 1) (pc' := 9) hE dX2_shortenAll_6 rfl lF_X2_15 rfl rfl rfl ?_
    refine jv_callV (pc' := 12) (o := some (.int (f_X3_usableTotal σ))) (σ' := σ) hE dX2_shortenAll_9 rfl lV_X2_34 (ok_X3_usableTotal rfl) rfl rfl rfl (by decide) rfl (Nat.le_of_ble_eq_true rfl) ?_
    show jv_V E 12 [some (.ref 12), some (.int (jv_b v1)), some (.int v2), none, none] [.int (f_X3_usableTotal σ), .int v2] σ
    refine jv_icmp_ge (x := v2) (y := (f_X3_usableTotal σ)) (tgt := 89) (pc' := 15) hE dX2_shortenAll_12 (by decide) rfl (fun c1 => ?_) (fun c1 => ?_)
    · rw [if_pos c1] at h
      cases h
      exact jv_forget [false, true, false, true, true] hk
    · rw [if_neg c1] at h
      refine jv_aload_n (x := 12) (pc' := 16) hE dX2_shortenAll_15 rfl 0 rfl rfl ?_
      refine jv_get (v := .ref 1) (pc' := 19) hE dX2_shortenAll_16 rfl lF_X2_15 rfl rfl rfl ?_
      refine jv_iload_n (x := v2) (pc' := 20) hE dX2_shortenAll_19 rfl 2 rfl rfl ?_
      refine jv_callV (pc' := 23) (o := some (.int (f_X3_outEdge σ v2))) (σ' := σ) hE dX2_shortenAll_20 rfl lV_X2_40 (ok_X3_outEdge rfl) rfl rfl rfl (by decide) rfl (Nat.le_of_ble_eq_true rfl) ?_
      show jv_V E 23 [some (.ref 12), some (.int (jv_b v1)), some (.int v2), none, none] [.int (f_X3_outEdge σ v2)] σ
      refine jv_istore_n (x := (f_X3_outEdge σ v2)) (L' := [some (.ref 12), some (.int (jv_b v1)), some (.int v2), some (.int (f_X3_outEdge σ v2)), none]) (pc' := 24) hE dX2_shortenAll_23 rfl 3 rfl (by decide) rfl rfl ?_
      refine jv_aload_n (x := 12) (pc' := 25) hE dX2_shortenAll_24 rfl 0 rfl rfl ?_
      refine jv_get (v := .ref 1) (pc' := 28) hE dX2_shortenAll_25 rfl lF_X2_15 rfl rfl rfl ?_
      refine jv_iload_n (x := (f_X3_outEdge σ v2)) (pc' := 29) hE dX2_shortenAll_28 rfl 3 rfl rfl ?_
      refine jv_callV (pc' := 32) (o := some (.int (f_X3_lengthOf σ (f_X3_outEdge σ v2)))) (σ' := σ) hE dX2_shortenAll_29 rfl lV_X2_44 (ok_X3_lengthOf rfl) rfl rfl rfl (by decide) rfl (Nat.le_of_ble_eq_true rfl) ?_
      show jv_V E 32 [some (.ref 12), some (.int (jv_b v1)), some (.int v2), some (.int (f_X3_outEdge σ v2)), none] [.int (f_X3_lengthOf σ (f_X3_outEdge σ v2))] σ
      refine jv_aload_n (x := 12) (pc' := 33) hE dX2_shortenAll_32 rfl 0 rfl rfl ?_
      refine jv_aload_n (x := 12) (pc' := 34) hE dX2_shortenAll_33 rfl 0 rfl rfl ?_
      refine jv_get (v := .ref 1) (pc' := 37) hE dX2_shortenAll_34 rfl lF_X2_15 rfl rfl rfl ?_
      refine jv_iload_n (x := (f_X3_outEdge σ v2)) (pc' := 38) hE dX2_shortenAll_37 rfl 3 rfl rfl ?_
      refine jv_callV (pc' := 41) (o := some (.int (f_X3_headOf σ (f_X3_outEdge σ v2)))) (σ' := σ) hE dX2_shortenAll_38 rfl lV_X2_47 (ok_X3_headOf rfl) rfl rfl rfl (by decide) rfl (Nat.le_of_ble_eq_true rfl) ?_
      show jv_V E 41 [some (.ref 12), some (.int (jv_b v1)), some (.int v2), some (.int (f_X3_outEdge σ v2)), none] [.int (f_X3_headOf σ (f_X3_outEdge σ v2)), .ref 12, .int (f_X3_lengthOf σ (f_X3_outEdge σ v2))] σ
      refine jv_callV (pc' := 44) (o := some (.int (f_X2_ofNode 13 σ (f_X3_headOf σ (f_X3_outEdge σ v2))))) (σ' := σ) hE dX2_shortenAll_41 rfl lV_X2_50 (ok_X2_ofNode_12 rfl) rfl rfl rfl (by decide) rfl (Nat.le_of_ble_eq_true rfl) ?_
      show jv_V E 44 [some (.ref 12), some (.int (jv_b v1)), some (.int v2), some (.int (f_X3_outEdge σ v2)), none] [.int (f_X2_ofNode 13 σ (f_X3_headOf σ (f_X3_outEdge σ v2))), .int (f_X3_lengthOf σ (f_X3_outEdge σ v2))] σ
      refine jv_iadd (x := (f_X3_lengthOf σ (f_X3_outEdge σ v2))) (y := (f_X2_ofNode 13 σ (f_X3_headOf σ (f_X3_outEdge σ v2)))) (pc' := 45) hE dX2_shortenAll_44 rfl ?_
      refine jv_istore (x := ((f_X3_lengthOf σ (f_X3_outEdge σ v2)) + (f_X2_ofNode 13 σ (f_X3_headOf σ (f_X3_outEdge σ v2))))) (L' := [some (.ref 12), some (.int (jv_b v1)), some (.int v2), some (.int (f_X3_outEdge σ v2)), some (.int ((f_X3_lengthOf σ (f_X3_outEdge σ v2)) + (f_X2_ofNode 13 σ (f_X3_headOf σ (f_X3_outEdge σ v2)))))]) (pc' := 47) hE dX2_shortenAll_45 rfl (by decide) rfl rfl ?_
      refine jv_iload (x := ((f_X3_lengthOf σ (f_X3_outEdge σ v2)) + (f_X2_ofNode 13 σ (f_X3_headOf σ (f_X3_outEdge σ v2))))) (pc' := 49) hE dX2_shortenAll_47 rfl rfl ?_
      refine jv_aload_n (x := 12) (pc' := 50) hE dX2_shortenAll_49 rfl 0 rfl rfl ?_
      refine jv_aload_n (x := 12) (pc' := 51) hE dX2_shortenAll_50 rfl 0 rfl rfl ?_
      refine jv_get (v := .ref 1) (pc' := 54) hE dX2_shortenAll_51 rfl lF_X2_15 rfl rfl rfl ?_
      refine jv_iload_n (x := (f_X3_outEdge σ v2)) (pc' := 55) hE dX2_shortenAll_54 rfl 3 rfl rfl ?_
      refine jv_callV (pc' := 58) (o := some (.int (f_X3_tailOf σ (f_X3_outEdge σ v2)))) (σ' := σ) hE dX2_shortenAll_55 rfl lV_X2_53 (ok_X3_tailOf rfl) rfl rfl rfl (by decide) rfl (Nat.le_of_ble_eq_true rfl) ?_
      show jv_V E 58 [some (.ref 12), some (.int (jv_b v1)), some (.int v2), some (.int (f_X3_outEdge σ v2)), some (.int ((f_X3_lengthOf σ (f_X3_outEdge σ v2)) + (f_X2_ofNode 13 σ (f_X3_headOf σ (f_X3_outEdge σ v2)))))] [.int (f_X3_tailOf σ (f_X3_outEdge σ v2)), .ref 12, .int ((f_X3_lengthOf σ (f_X3_outEdge σ v2)) + (f_X2_ofNode 13 σ (f_X3_headOf σ (f_X3_outEdge σ v2))))] σ
      refine jv_callV (pc' := 61) (o := some (.int (f_X2_ofNode 13 σ (f_X3_tailOf σ (f_X3_outEdge σ v2))))) (σ' := σ) hE dX2_shortenAll_58 rfl lV_X2_50 (ok_X2_ofNode_12 rfl) rfl rfl rfl (by decide) rfl (Nat.le_of_ble_eq_true rfl) ?_
      show jv_V E 61 [some (.ref 12), some (.int (jv_b v1)), some (.int v2), some (.int (f_X3_outEdge σ v2)), some (.int ((f_X3_lengthOf σ (f_X3_outEdge σ v2)) + (f_X2_ofNode 13 σ (f_X3_headOf σ (f_X3_outEdge σ v2)))))] [.int (f_X2_ofNode 13 σ (f_X3_tailOf σ (f_X3_outEdge σ v2))), .int ((f_X3_lengthOf σ (f_X3_outEdge σ v2)) + (f_X2_ofNode 13 σ (f_X3_headOf σ (f_X3_outEdge σ v2))))] σ
      obtain ⟨q3, hq3, h⟩ := jv_lt_eq h
      have kq3 : jv_V E 83 [some (.ref 12), some (.int (jv_b q3.1)), some (.int v2), none, none] [] q3.2 := by
        refine jv_iinc (x := v2) (v := (v2 + (1 : Int32))) (L' := [some (.ref 12), some (.int (jv_b q3.1)), some (.int (v2 + (1 : Int32))), none, none]) (pc' := 86) hE dX2_shortenAll_83 rfl rfl rfl (by decide) rfl rfl ?_
        refine jv_goto (tgt := 4) hE dX2_shortenAll_86 (by decide) ?_
        exact jv_forget [true, true, true, true, true] (ih q3.1 (v2 + (1 : Int32)) q3.2 _ h hk)
      refine jv_icmp_ge (x := ((f_X3_lengthOf σ (f_X3_outEdge σ v2)) + (f_X2_ofNode 13 σ (f_X3_headOf σ (f_X3_outEdge σ v2))))) (y := (f_X2_ofNode 13 σ (f_X3_tailOf σ (f_X3_outEdge σ v2)))) (tgt := 83) (pc' := 64) hE dX2_shortenAll_61 (by decide) rfl (fun c2 => ?_) (fun c2 => ?_)
      · rw [if_pos c2] at hq3
        cases hq3
        exact jv_forget [true, true, true, false, false] kq3
      · rw [if_neg c2] at hq3
        refine jv_aload_n (x := 12) (pc' := 65) hE dX2_shortenAll_64 rfl 0 rfl rfl ?_
        refine jv_get (v := .ref 13) (pc' := 68) hE dX2_shortenAll_65 rfl lF_X2_9 rfl rfl rfl ?_
        refine jv_aload_n (x := 12) (pc' := 69) hE dX2_shortenAll_68 rfl 0 rfl rfl ?_
        refine jv_get (v := .ref 1) (pc' := 72) hE dX2_shortenAll_69 rfl lF_X2_15 rfl rfl rfl ?_
        refine jv_iload_n (x := (f_X3_outEdge σ v2)) (pc' := 73) hE dX2_shortenAll_72 rfl 3 rfl rfl ?_
        refine jv_callV (pc' := 76) (o := some (.int (f_X3_tailOf σ (f_X3_outEdge σ v2)))) (σ' := σ) hE dX2_shortenAll_73 rfl lV_X2_53 (ok_X3_tailOf rfl) rfl rfl rfl (by decide) rfl (Nat.le_of_ble_eq_true rfl) ?_
        show jv_V E 76 [some (.ref 12), some (.int (jv_b v1)), some (.int v2), some (.int (f_X3_outEdge σ v2)), some (.int ((f_X3_lengthOf σ (f_X3_outEdge σ v2)) + (f_X2_ofNode 13 σ (f_X3_headOf σ (f_X3_outEdge σ v2)))))] [.int (f_X3_tailOf σ (f_X3_outEdge σ v2)), .ref 13] σ
        refine jv_iload (x := ((f_X3_lengthOf σ (f_X3_outEdge σ v2)) + (f_X2_ofNode 13 σ (f_X3_headOf σ (f_X3_outEdge σ v2))))) (pc' := 78) hE dX2_shortenAll_76 rfl rfl ?_
        refine jv_callN (pc' := 81) (o := none) (σ' := (jv_wr σ 13 10 (f_X3_tailOf σ (f_X3_outEdge σ v2)) ((f_X3_lengthOf σ (f_X3_outEdge σ v2)) + (f_X2_ofNode 13 σ (f_X3_headOf σ (f_X3_outEdge σ v2)))))) hE dX2_shortenAll_78 rfl lN_X2_26 (ok_X7_put (n := 10) (by decide) rfl rfl) rfl (by decide) rfl (Nat.le_of_ble_eq_true rfl) ?_
        show jv_V E 81 [some (.ref 12), some (.int (jv_b v1)), some (.int v2), some (.int (f_X3_outEdge σ v2)), some (.int ((f_X3_lengthOf σ (f_X3_outEdge σ v2)) + (f_X2_ofNode 13 σ (f_X3_headOf σ (f_X3_outEdge σ v2)))))] [] (jv_wr σ 13 10 (f_X3_tailOf σ (f_X3_outEdge σ v2)) ((f_X3_lengthOf σ (f_X3_outEdge σ v2)) + (f_X2_ofNode 13 σ (f_X3_headOf σ (f_X3_outEdge σ v2)))))
        refine jv_iconst (v := (1 : Int32)) (pc' := 82) hE dX2_shortenAll_81 rfl (by decide) ?_
        refine jv_istore_n (x := (1 : Int32)) (L' := [some (.ref 12), some (.int (1 : Int32)), some (.int v2), some (.int (f_X3_outEdge σ v2)), some (.int ((f_X3_lengthOf σ (f_X3_outEdge σ v2)) + (f_X2_ofNode 13 σ (f_X3_headOf σ (f_X3_outEdge σ v2)))))]) (pc' := 83) hE dX2_shortenAll_82 rfl 1 rfl (by decide) rfl rfl ?_
        cases hq3
        exact jv_forget [true, true, true, false, false] kq3
set_option maxRecDepth 100000 in
set_option maxHeartbeats 4000000 in
theorem ok_X2_shortenAll_12 {G : jv_G} {l : Launch} {σ : jv_S} {r : Bool × jv_S} (h : f_X2_shortenAll 13 σ = some r) : jv_Cn G l 3 M_X2_shortenAll [.ref 12] σ (some (.int (jv_b r.1))) r.2 := by
  refine jv_of (L0 := [some (.ref 12), none, none, none, none]) (by decide +kernel) (Nat.le_of_ble_eq_true rfl) rfl (jv_okZ _) (fun E e1 e2 hE hret => ?_)
  unfold f_X2_shortenAll at h
  refine jv_iconst (v := (0 : Int32)) (pc' := 1) hE dX2_shortenAll_0 rfl (by decide) ?_
  refine jv_istore_n (x := (0 : Int32)) (L' := [some (.ref 12), some (.int (0 : Int32)), none, none, none]) (pc' := 2) hE dX2_shortenAll_1 rfl 1 rfl (by decide) rfl rfl ?_
  refine jv_iconst (v := (0 : Int32)) (pc' := 3) hE dX2_shortenAll_2 rfl (by decide) ?_
  refine jv_istore_n (x := (0 : Int32)) (L' := [some (.ref 12), some (.int (0 : Int32)), some (.int (0 : Int32)), none, none]) (pc' := 4) hE dX2_shortenAll_3 rfl 2 rfl (by decide) rfl rfl ?_
  obtain ⟨q4, hq4, h⟩ := jv_bd_some h
  refine jv_forget [true, true, true, true, true] (lp_X2_shortenAll_12_4 hE jv_fuel false (0 : Int32) σ _ hq4 ?_)
  refine jv_iload_n (x := (jv_b q4.1)) (pc' := 90) hE dX2_shortenAll_89 rfl 1 rfl rfl ?_
  cases h
  exact hret _ _ dX2_shortenAll_90
set_option maxRecDepth 100000 in
set_option maxHeartbeats 4000000 in
theorem lp_X2_shortenAll_15_4 {E : jv_E} (hE : jv_Cx E RX2 cX2_shortenAll 5 3) : ∀ (n : Nat) (v1 : Bool) (v2 : Int32) (σ : jv_S) (q : Bool × Int32 × jv_S), f_X2_shortenAll_lp4 16 n v1 v2 σ = some q → (jv_V E 89 [none, some (.int (jv_b q.1)), none, none, none] [] q.2.2) → jv_V E 4 [some (.ref 15), some (.int (jv_b v1)), some (.int v2), none, none] [] σ := by
  intro n
  induction n with
  | zero =>
    intro v1 v2 σ q h
    rw [f_X2_shortenAll_lp4] at h
    cases h
  | succ n ih =>
    intro v1 v2 σ q h hk
    rw [f_X2_shortenAll_lp4] at h
    refine jv_iload_n (x := v2) (pc' := 5) hE dX2_shortenAll_4 rfl 2 rfl rfl ?_
    refine jv_aload_n (x := 15) (pc' := 6) hE dX2_shortenAll_5 rfl 0 rfl rfl ?_
    refine jv_get (v := .ref 1) (pc' := 9) hE dX2_shortenAll_6 rfl lF_X2_15 rfl rfl rfl ?_
    refine jv_callV (pc' := 12) (o := some (.int (f_X3_usableTotal σ))) (σ' := σ) hE dX2_shortenAll_9 rfl lV_X2_34 (ok_X3_usableTotal rfl) rfl rfl rfl (by decide) rfl (Nat.le_of_ble_eq_true rfl) ?_
    show jv_V E 12 [some (.ref 15), some (.int (jv_b v1)), some (.int v2), none, none] [.int (f_X3_usableTotal σ), .int v2] σ
    refine jv_icmp_ge (x := v2) (y := (f_X3_usableTotal σ)) (tgt := 89) (pc' := 15) hE dX2_shortenAll_12 (by decide) rfl (fun c1 => ?_) (fun c1 => ?_)
    · rw [if_pos c1] at h
      cases h
      exact jv_forget [false, true, false, true, true] hk
    · rw [if_neg c1] at h
      refine jv_aload_n (x := 15) (pc' := 16) hE dX2_shortenAll_15 rfl 0 rfl rfl ?_
      refine jv_get (v := .ref 1) (pc' := 19) hE dX2_shortenAll_16 rfl lF_X2_15 rfl rfl rfl ?_
      refine jv_iload_n (x := v2) (pc' := 20) hE dX2_shortenAll_19 rfl 2 rfl rfl ?_
      refine jv_callV (pc' := 23) (o := some (.int (f_X3_outEdge σ v2))) (σ' := σ) hE dX2_shortenAll_20 rfl lV_X2_40 (ok_X3_outEdge rfl) rfl rfl rfl (by decide) rfl (Nat.le_of_ble_eq_true rfl) ?_
      show jv_V E 23 [some (.ref 15), some (.int (jv_b v1)), some (.int v2), none, none] [.int (f_X3_outEdge σ v2)] σ
      refine jv_istore_n (x := (f_X3_outEdge σ v2)) (L' := [some (.ref 15), some (.int (jv_b v1)), some (.int v2), some (.int (f_X3_outEdge σ v2)), none]) (pc' := 24) hE dX2_shortenAll_23 rfl 3 rfl (by decide) rfl rfl ?_
      refine jv_aload_n (x := 15) (pc' := 25) hE dX2_shortenAll_24 rfl 0 rfl rfl ?_
      refine jv_get (v := .ref 1) (pc' := 28) hE dX2_shortenAll_25 rfl lF_X2_15 rfl rfl rfl ?_
      refine jv_iload_n (x := (f_X3_outEdge σ v2)) (pc' := 29) hE dX2_shortenAll_28 rfl 3 rfl rfl ?_
      refine jv_callV (pc' := 32) (o := some (.int (f_X3_lengthOf σ (f_X3_outEdge σ v2)))) (σ' := σ) hE dX2_shortenAll_29 rfl lV_X2_44 (ok_X3_lengthOf rfl) rfl rfl rfl (by decide) rfl (Nat.le_of_ble_eq_true rfl) ?_
      show jv_V E 32 [some (.ref 15), some (.int (jv_b v1)), some (.int v2), some (.int (f_X3_outEdge σ v2)), none] [.int (f_X3_lengthOf σ (f_X3_outEdge σ v2))] σ
      refine jv_aload_n (x := 15) (pc' := 33) hE dX2_shortenAll_32 rfl 0 rfl rfl ?_
      refine jv_aload_n (x := 15) (pc' := 34) hE dX2_shortenAll_33 rfl 0 rfl rfl ?_
      refine jv_get (v := .ref 1) (pc' := 37) hE dX2_shortenAll_34 rfl lF_X2_15 rfl rfl rfl ?_
      refine jv_iload_n (x := (f_X3_outEdge σ v2)) (pc' := 38) hE dX2_shortenAll_37 rfl 3 rfl rfl ?_
      refine jv_callV (pc' := 41) (o := some (.int (f_X3_headOf σ (f_X3_outEdge σ v2)))) (σ' := σ) hE dX2_shortenAll_38 rfl lV_X2_47 (ok_X3_headOf rfl) rfl rfl rfl (by decide) rfl (Nat.le_of_ble_eq_true rfl) ?_
      show jv_V E 41 [some (.ref 15), some (.int (jv_b v1)), some (.int v2), some (.int (f_X3_outEdge σ v2)), none] [.int (f_X3_headOf σ (f_X3_outEdge σ v2)), .ref 15, .int (f_X3_lengthOf σ (f_X3_outEdge σ v2))] σ
      refine jv_callV (pc' := 44) (o := some (.int (f_X2_ofNode 16 σ (f_X3_headOf σ (f_X3_outEdge σ v2))))) (σ' := σ) hE dX2_shortenAll_41 rfl lV_X2_50 (ok_X2_ofNode_15 rfl) rfl rfl rfl (by decide) rfl (Nat.le_of_ble_eq_true rfl) ?_
      show jv_V E 44 [some (.ref 15), some (.int (jv_b v1)), some (.int v2), some (.int (f_X3_outEdge σ v2)), none] [.int (f_X2_ofNode 16 σ (f_X3_headOf σ (f_X3_outEdge σ v2))), .int (f_X3_lengthOf σ (f_X3_outEdge σ v2))] σ
      refine jv_iadd (x := (f_X3_lengthOf σ (f_X3_outEdge σ v2))) (y := (f_X2_ofNode 16 σ (f_X3_headOf σ (f_X3_outEdge σ v2)))) (pc' := 45) hE dX2_shortenAll_44 rfl ?_
      refine jv_istore (x := ((f_X3_lengthOf σ (f_X3_outEdge σ v2)) + (f_X2_ofNode 16 σ (f_X3_headOf σ (f_X3_outEdge σ v2))))) (L' := [some (.ref 15), some (.int (jv_b v1)), some (.int v2), some (.int (f_X3_outEdge σ v2)), some (.int ((f_X3_lengthOf σ (f_X3_outEdge σ v2)) + (f_X2_ofNode 16 σ (f_X3_headOf σ (f_X3_outEdge σ v2)))))]) (pc' := 47) hE dX2_shortenAll_45 rfl (by decide) rfl rfl ?_
      refine jv_iload (x := ((f_X3_lengthOf σ (f_X3_outEdge σ v2)) + (f_X2_ofNode 16 σ (f_X3_headOf σ (f_X3_outEdge σ v2))))) (pc' := 49) hE dX2_shortenAll_47 rfl rfl ?_
      refine jv_aload_n (x := 15) (pc' := 50) hE dX2_shortenAll_49 rfl 0 rfl rfl ?_
      refine jv_aload_n (x := 15) (pc' := 51) hE dX2_shortenAll_50 rfl 0 rfl rfl ?_
      refine jv_get (v := .ref 1) (pc' := 54) hE dX2_shortenAll_51 rfl lF_X2_15 rfl rfl rfl ?_
      refine jv_iload_n (x := (f_X3_outEdge σ v2)) (pc' := 55) hE dX2_shortenAll_54 rfl 3 rfl rfl ?_
      refine jv_callV (pc' := 58) (o := some (.int (f_X3_tailOf σ (f_X3_outEdge σ v2)))) (σ' := σ) hE dX2_shortenAll_55 rfl lV_X2_53 (ok_X3_tailOf rfl) rfl rfl rfl (by decide) rfl (Nat.le_of_ble_eq_true rfl) ?_
      show jv_V E 58 [some (.ref 15), some (.int (jv_b v1)), some (.int v2), some (.int (f_X3_outEdge σ v2)), some (.int ((f_X3_lengthOf σ (f_X3_outEdge σ v2)) + (f_X2_ofNode 16 σ (f_X3_headOf σ (f_X3_outEdge σ v2)))))] [.int (f_X3_tailOf σ (f_X3_outEdge σ v2)), .ref 15, .int ((f_X3_lengthOf σ (f_X3_outEdge σ v2)) + (f_X2_ofNode 16 σ (f_X3_headOf σ (f_X3_outEdge σ v2))))] σ
      refine jv_callV (pc' := 61) (o := some (.int (f_X2_ofNode 16 σ (f_X3_tailOf σ (f_X3_outEdge σ v2))))) (σ' := σ) hE dX2_shortenAll_58 rfl lV_X2_50 (ok_X2_ofNode_15 rfl) rfl rfl rfl (by decide) rfl (Nat.le_of_ble_eq_true rfl) ?_
      show jv_V E 61 [some (.ref 15), some (.int (jv_b v1)), some (.int v2), some (.int (f_X3_outEdge σ v2)), some (.int ((f_X3_lengthOf σ (f_X3_outEdge σ v2)) + (f_X2_ofNode 16 σ (f_X3_headOf σ (f_X3_outEdge σ v2)))))] [.int (f_X2_ofNode 16 σ (f_X3_tailOf σ (f_X3_outEdge σ v2))), .int ((f_X3_lengthOf σ (f_X3_outEdge σ v2)) + (f_X2_ofNode 16 σ (f_X3_headOf σ (f_X3_outEdge σ v2))))] σ
      obtain ⟨q3, hq3, h⟩ := jv_lt_eq h
      have kq3 : jv_V E 83 [some (.ref 15), some (.int (jv_b q3.1)), some (.int v2), none, none] [] q3.2 := by
        refine jv_iinc (x := v2) (v := (v2 + (1 : Int32))) (L' := [some (.ref 15), some (.int (jv_b q3.1)), some (.int (v2 + (1 : Int32))), none, none]) (pc' := 86) hE dX2_shortenAll_83 rfl rfl rfl (by decide) rfl rfl ?_
        refine jv_goto (tgt := 4) hE dX2_shortenAll_86 (by decide) ?_
        exact jv_forget [true, true, true, true, true] (ih q3.1 (v2 + (1 : Int32)) q3.2 _ h hk)
      refine jv_icmp_ge (x := ((f_X3_lengthOf σ (f_X3_outEdge σ v2)) + (f_X2_ofNode 16 σ (f_X3_headOf σ (f_X3_outEdge σ v2))))) (y := (f_X2_ofNode 16 σ (f_X3_tailOf σ (f_X3_outEdge σ v2)))) (tgt := 83) (pc' := 64) hE dX2_shortenAll_61 (by decide) rfl (fun c2 => ?_) (fun c2 => ?_)
      · rw [if_pos c2] at hq3
        cases hq3
        exact jv_forget [true, true, true, false, false] kq3
      · rw [if_neg c2] at hq3
        refine jv_aload_n (x := 15) (pc' := 65) hE dX2_shortenAll_64 rfl 0 rfl rfl ?_
        refine jv_get (v := .ref 16) (pc' := 68) hE dX2_shortenAll_65 rfl lF_X2_9 rfl rfl rfl ?_
        refine jv_aload_n (x := 15) (pc' := 69) hE dX2_shortenAll_68 rfl 0 rfl rfl ?_
        refine jv_get (v := .ref 1) (pc' := 72) hE dX2_shortenAll_69 rfl lF_X2_15 rfl rfl rfl ?_
        refine jv_iload_n (x := (f_X3_outEdge σ v2)) (pc' := 73) hE dX2_shortenAll_72 rfl 3 rfl rfl ?_
        refine jv_callV (pc' := 76) (o := some (.int (f_X3_tailOf σ (f_X3_outEdge σ v2)))) (σ' := σ) hE dX2_shortenAll_73 rfl lV_X2_53 (ok_X3_tailOf rfl) rfl rfl rfl (by decide) rfl (Nat.le_of_ble_eq_true rfl) ?_
        show jv_V E 76 [some (.ref 15), some (.int (jv_b v1)), some (.int v2), some (.int (f_X3_outEdge σ v2)), some (.int ((f_X3_lengthOf σ (f_X3_outEdge σ v2)) + (f_X2_ofNode 16 σ (f_X3_headOf σ (f_X3_outEdge σ v2)))))] [.int (f_X3_tailOf σ (f_X3_outEdge σ v2)), .ref 16] σ
        refine jv_iload (x := ((f_X3_lengthOf σ (f_X3_outEdge σ v2)) + (f_X2_ofNode 16 σ (f_X3_headOf σ (f_X3_outEdge σ v2))))) (pc' := 78) hE dX2_shortenAll_76 rfl rfl ?_
        refine jv_callN (pc' := 81) (o := none) (σ' := (jv_wr σ 16 10 (f_X3_tailOf σ (f_X3_outEdge σ v2)) ((f_X3_lengthOf σ (f_X3_outEdge σ v2)) + (f_X2_ofNode 16 σ (f_X3_headOf σ (f_X3_outEdge σ v2)))))) hE dX2_shortenAll_78 rfl lN_X2_26 (ok_X7_put (n := 10) (by decide) rfl rfl) rfl (by decide) rfl (Nat.le_of_ble_eq_true rfl) ?_
        show jv_V E 81 [some (.ref 15), some (.int (jv_b v1)), some (.int v2), some (.int (f_X3_outEdge σ v2)), some (.int ((f_X3_lengthOf σ (f_X3_outEdge σ v2)) + (f_X2_ofNode 16 σ (f_X3_headOf σ (f_X3_outEdge σ v2)))))] [] (jv_wr σ 16 10 (f_X3_tailOf σ (f_X3_outEdge σ v2)) ((f_X3_lengthOf σ (f_X3_outEdge σ v2)) + (f_X2_ofNode 16 σ (f_X3_headOf σ (f_X3_outEdge σ v2)))))
        refine jv_iconst (v := (1 : Int32)) (pc' := 82) hE dX2_shortenAll_81 rfl (by decide) ?_
        refine jv_istore_n (x := (1 : Int32)) (L' := [some (.ref 15), some (.int (1 : Int32)), some (.int v2), some (.int (f_X3_outEdge σ v2)), some (.int ((f_X3_lengthOf σ (f_X3_outEdge σ v2)) + (f_X2_ofNode 16 σ (f_X3_headOf σ (f_X3_outEdge σ v2)))))]) (pc' := 83) hE dX2_shortenAll_82 rfl 1 rfl (by decide) rfl rfl ?_
        cases hq3
        exact jv_forget [true, true, true, false, false] kq3
set_option maxRecDepth 100000 in
set_option maxHeartbeats 4000000 in
theorem ok_X2_shortenAll_15 {G : jv_G} {l : Launch} {σ : jv_S} {r : Bool × jv_S} (h : f_X2_shortenAll 16 σ = some r) : jv_Cn G l 3 M_X2_shortenAll [.ref 15] σ (some (.int (jv_b r.1))) r.2 := by
  refine jv_of (L0 := [some (.ref 15), none, none, none, none]) (by decide +kernel) (Nat.le_of_ble_eq_true rfl) rfl (jv_okZ _) (fun E e1 e2 hE hret => ?_)
  unfold f_X2_shortenAll at h
  refine jv_iconst (v := (0 : Int32)) (pc' := 1) hE dX2_shortenAll_0 rfl (by decide) ?_
  refine jv_istore_n (x := (0 : Int32)) (L' := [some (.ref 15), some (.int (0 : Int32)), none, none, none]) (pc' := 2) hE dX2_shortenAll_1 rfl 1 rfl (by decide) rfl rfl ?_
  refine jv_iconst (v := (0 : Int32)) (pc' := 3) hE dX2_shortenAll_2 rfl (by decide) ?_
  refine jv_istore_n (x := (0 : Int32)) (L' := [some (.ref 15), some (.int (0 : Int32)), some (.int (0 : Int32)), none, none]) (pc' := 4) hE dX2_shortenAll_3 rfl 2 rfl (by decide) rfl rfl ?_
  obtain ⟨q4, hq4, h⟩ := jv_bd_some h
  refine jv_forget [true, true, true, true, true] (lp_X2_shortenAll_15_4 hE jv_fuel false (0 : Int32) σ _ hq4 ?_)
  refine jv_iload_n (x := (jv_b q4.1)) (pc' := 90) hE dX2_shortenAll_89 rfl 1 rfl rfl ?_
  cases h
  exact hret _ _ dX2_shortenAll_90
noncomputable def f_X2_measureTo_lp22 (a : Nat) : Nat → Bool → Int32 → jv_S → Option (Bool × Int32 × jv_S)
  | 0, _, _, _ => none
  | n + 1, v2, v3, σ => if (10 : Int32) ≤ v3 then (some (v2, v3, σ)) else (if v2 = true then (jv_bd (f_X2_shortenAll a σ) (fun q3 => f_X2_measureTo_lp22 a n q3.1 (v3 + (1 : Int32)) q3.2)) else (some (v2, v3, σ)))
noncomputable def f_X2_measureTo (a : Nat) (σ : jv_S) (p1 : Int32) : Option (jv_S) := jv_bd (f_X2_measureTo_lp22 a jv_fuel true (0 : Int32) (jv_wr (jv_fl σ a 10 (1000000000 : Int32)) a 10 p1 (0 : Int32))) (fun q4 => some q4.2.2)
set_option maxRecDepth 100000 in
set_option maxHeartbeats 4000000 in
theorem lp_X2_measureTo_8_22 {E : jv_E} (hE : jv_Cx E RX2 cX2_measureTo 4 4) : ∀ (n : Nat) (v2 : Bool) (v3 : Int32) (σ : jv_S) (q : Bool × Int32 × jv_S), f_X2_measureTo_lp22 9 n v2 v3 σ = some q → (jv_V E 43 [none, none, none, none] [] q.2.2) → jv_V E 22 [some (.ref 8), none, some (.int (jv_b v2)), some (.int v3)] [] σ := by
  intro n
  induction n with
  | zero =>
    intro v2 v3 σ q h
    rw [f_X2_measureTo_lp22] at h
    cases h
  | succ n ih =>
    intro v2 v3 σ q h hk
    rw [f_X2_measureTo_lp22] at h
    refine jv_iload_n (x := v3) (pc' := 23) hE dX2_measureTo_22 rfl 3 rfl rfl ?_
    refine jv_bipush (v := (10 : Int32)) (pc' := 25) hE dX2_measureTo_23 rfl (by decide) ?_
    refine jv_icmp_ge (x := v3) (y := (10 : Int32)) (tgt := 43) (pc' := 28) hE dX2_measureTo_25 (by decide) rfl (fun c1 => ?_) (fun c1 => ?_)
    · rw [if_pos c1] at h
      cases h
      exact jv_forget [false, true, false, false] hk
    · rw [if_neg c1] at h
      refine jv_iload_n (x := (jv_b v2)) (pc' := 29) hE dX2_measureTo_28 rfl 2 rfl rfl ?_
      refine jv_if_eq (x := (jv_b v2)) (tgt := 43) (pc' := 32) hE dX2_measureTo_29 (by decide) rfl (fun c2 => ?_) (fun c2 => ?_)
      · have c2 := jv_b0 c2
        rw [if_neg c2] at h
        cases h
        exact jv_forget [false, true, false, false] hk
      · have c2 := jv_b1 c2
        rw [if_pos c2] at h
        refine jv_aload_n (x := 8) (pc' := 33) hE dX2_measureTo_32 rfl 0 rfl rfl ?_
        obtain ⟨q3, hq3, h⟩ := jv_bd_some h
        refine jv_callV (pc' := 36) (o := some (.int (jv_b q3.1))) (σ' := q3.2) hE dX2_measureTo_33 rfl lV_X2_30 (ok_X2_shortenAll_8 hq3) rfl rfl rfl (by decide) rfl (Nat.le_of_ble_eq_true rfl) ?_
        show jv_V E 36 [some (.ref 8), none, some (.int (jv_b v2)), some (.int v3)] [.int (jv_b q3.1)] q3.2
        refine jv_istore_n (x := (jv_b q3.1)) (L' := [some (.ref 8), none, some (.int (jv_b q3.1)), some (.int v3)]) (pc' := 37) hE dX2_measureTo_36 rfl 2 rfl (by decide) rfl rfl ?_
        refine jv_iinc (x := v3) (v := (v3 + (1 : Int32))) (L' := [some (.ref 8), none, some (.int (jv_b q3.1)), some (.int (v3 + (1 : Int32)))]) (pc' := 40) hE dX2_measureTo_37 rfl rfl rfl (by decide) rfl rfl ?_
        refine jv_goto (tgt := 22) hE dX2_measureTo_40 (by decide) ?_
        exact jv_forget [true, true, true, true] (ih q3.1 (v3 + (1 : Int32)) q3.2 _ h hk)
set_option maxRecDepth 100000 in
set_option maxHeartbeats 4000000 in
theorem ok_X2_measureTo_8 {G : jv_G} {l : Launch} {σ : jv_S} {p1 : Int32} {r : jv_S} (h : f_X2_measureTo 9 σ p1 = some r) : jv_Cn G l 4 M_X2_measureTo [.ref 8, .int p1] σ (none) r := by
  refine jv_of (L0 := [some (.ref 8), some (.int p1), none, none]) (by decide +kernel) (Nat.le_of_ble_eq_true rfl) rfl jv_okV (fun E e1 e2 hE hret => ?_)
  unfold f_X2_measureTo at h
  refine jv_aload_n (x := 8) (pc' := 1) hE dX2_measureTo_0 rfl 0 rfl rfl ?_
  refine jv_get (v := .ref 9) (pc' := 4) hE dX2_measureTo_1 rfl lF_X2_9 rfl rfl rfl ?_
  refine jv_ldc (v := (1000000000 : Int32)) (pc' := 6) hE dX2_measureTo_4 rfl lC_X2_19 ?_
  refine jv_callS (pc' := 9) (o := none) (σ' := (jv_fl σ 9 10 (1000000000 : Int32))) hE dX2_measureTo_6 rfl lS_X2_20 (ok_J7_fill_53178 (n := 10) (by decide) rfl rfl) rfl (by decide) rfl (Nat.le_of_ble_eq_true rfl) ?_
  show jv_V E 9 [some (.ref 8), some (.int p1), none, none] [] (jv_fl σ 9 10 (1000000000 : Int32))
  refine jv_aload_n (x := 8) (pc' := 10) hE dX2_measureTo_9 rfl 0 rfl rfl ?_
  refine jv_get (v := .ref 9) (pc' := 13) hE dX2_measureTo_10 rfl lF_X2_9 rfl rfl rfl ?_
  refine jv_iload_n (x := p1) (pc' := 14) hE dX2_measureTo_13 rfl 1 rfl rfl ?_
  refine jv_iconst (v := (0 : Int32)) (pc' := 15) hE dX2_measureTo_14 rfl (by decide) ?_
  refine jv_callN (pc' := 18) (o := none) (σ' := (jv_wr (jv_fl σ 9 10 (1000000000 : Int32)) 9 10 p1 (0 : Int32))) hE dX2_measureTo_15 rfl lN_X2_26 (ok_X7_put (n := 10) (by decide) rfl rfl) rfl (by decide) rfl (Nat.le_of_ble_eq_true rfl) ?_
  show jv_V E 18 [some (.ref 8), some (.int p1), none, none] [] (jv_wr (jv_fl σ 9 10 (1000000000 : Int32)) 9 10 p1 (0 : Int32))
  refine jv_iconst (v := (1 : Int32)) (pc' := 19) hE dX2_measureTo_18 rfl (by decide) ?_
  refine jv_istore_n (x := (1 : Int32)) (L' := [some (.ref 8), some (.int p1), some (.int (1 : Int32)), none]) (pc' := 20) hE dX2_measureTo_19 rfl 2 rfl (by decide) rfl rfl ?_
  refine jv_iconst (v := (0 : Int32)) (pc' := 21) hE dX2_measureTo_20 rfl (by decide) ?_
  refine jv_istore_n (x := (0 : Int32)) (L' := [some (.ref 8), some (.int p1), some (.int (1 : Int32)), some (.int (0 : Int32))]) (pc' := 22) hE dX2_measureTo_21 rfl 3 rfl (by decide) rfl rfl ?_
  obtain ⟨q4, hq4, h⟩ := jv_bd_some h
  refine jv_forget [true, false, true, true] (lp_X2_measureTo_8_22 hE jv_fuel true (0 : Int32) (jv_wr (jv_fl σ 9 10 (1000000000 : Int32)) 9 10 p1 (0 : Int32)) _ hq4 ?_)
  cases h
  exact hret _ _ dX2_measureTo_43
set_option maxRecDepth 100000 in
set_option maxHeartbeats 4000000 in
theorem lp_X2_measureTo_12_22 {E : jv_E} (hE : jv_Cx E RX2 cX2_measureTo 4 4) : ∀ (n : Nat) (v2 : Bool) (v3 : Int32) (σ : jv_S) (q : Bool × Int32 × jv_S), f_X2_measureTo_lp22 13 n v2 v3 σ = some q → (jv_V E 43 [none, none, none, none] [] q.2.2) → jv_V E 22 [some (.ref 12), none, some (.int (jv_b v2)), some (.int v3)] [] σ := by
  intro n
  induction n with
  | zero =>
    intro v2 v3 σ q h
    rw [f_X2_measureTo_lp22] at h
    cases h
  | succ n ih =>
    intro v2 v3 σ q h hk
    rw [f_X2_measureTo_lp22] at h
    refine jv_iload_n (x := v3) (pc' := 23) hE dX2_measureTo_22 rfl 3 rfl rfl ?_
    refine jv_bipush (v := (10 : Int32)) (pc' := 25) hE dX2_measureTo_23 rfl (by decide) ?_
    refine jv_icmp_ge (x := v3) (y := (10 : Int32)) (tgt := 43) (pc' := 28) hE dX2_measureTo_25 (by decide) rfl (fun c1 => ?_) (fun c1 => ?_)
    · rw [if_pos c1] at h
      cases h
      exact jv_forget [false, true, false, false] hk
    · rw [if_neg c1] at h
      refine jv_iload_n (x := (jv_b v2)) (pc' := 29) hE dX2_measureTo_28 rfl 2 rfl rfl ?_
      refine jv_if_eq (x := (jv_b v2)) (tgt := 43) (pc' := 32) hE dX2_measureTo_29 (by decide) rfl (fun c2 => ?_) (fun c2 => ?_)
      · have c2 := jv_b0 c2
        rw [if_neg c2] at h
        cases h
        exact jv_forget [false, true, false, false] hk
      · have c2 := jv_b1 c2
        rw [if_pos c2] at h
        refine jv_aload_n (x := 12) (pc' := 33) hE dX2_measureTo_32 rfl 0 rfl rfl ?_
        obtain ⟨q3, hq3, h⟩ := jv_bd_some h
        refine jv_callV (pc' := 36) (o := some (.int (jv_b q3.1))) (σ' := q3.2) hE dX2_measureTo_33 rfl lV_X2_30 (ok_X2_shortenAll_12 hq3) rfl rfl rfl (by decide) rfl (Nat.le_of_ble_eq_true rfl) ?_
        show jv_V E 36 [some (.ref 12), none, some (.int (jv_b v2)), some (.int v3)] [.int (jv_b q3.1)] q3.2
        refine jv_istore_n (x := (jv_b q3.1)) (L' := [some (.ref 12), none, some (.int (jv_b q3.1)), some (.int v3)]) (pc' := 37) hE dX2_measureTo_36 rfl 2 rfl (by decide) rfl rfl ?_
        refine jv_iinc (x := v3) (v := (v3 + (1 : Int32))) (L' := [some (.ref 12), none, some (.int (jv_b q3.1)), some (.int (v3 + (1 : Int32)))]) (pc' := 40) hE dX2_measureTo_37 rfl rfl rfl (by decide) rfl rfl ?_
        refine jv_goto (tgt := 22) hE dX2_measureTo_40 (by decide) ?_
        exact jv_forget [true, true, true, true] (ih q3.1 (v3 + (1 : Int32)) q3.2 _ h hk)
set_option maxRecDepth 100000 in
set_option maxHeartbeats 4000000 in
theorem ok_X2_measureTo_12 {G : jv_G} {l : Launch} {σ : jv_S} {p1 : Int32} {r : jv_S} (h : f_X2_measureTo 13 σ p1 = some r) : jv_Cn G l 4 M_X2_measureTo [.ref 12, .int p1] σ (none) r := by
  refine jv_of (L0 := [some (.ref 12), some (.int p1), none, none]) (by decide +kernel) (Nat.le_of_ble_eq_true rfl) rfl jv_okV (fun E e1 e2 hE hret => ?_)
  unfold f_X2_measureTo at h
  refine jv_aload_n (x := 12) (pc' := 1) hE dX2_measureTo_0 rfl 0 rfl rfl ?_
  refine jv_get (v := .ref 13) (pc' := 4) hE dX2_measureTo_1 rfl lF_X2_9 rfl rfl rfl ?_
  refine jv_ldc (v := (1000000000 : Int32)) (pc' := 6) hE dX2_measureTo_4 rfl lC_X2_19 ?_
  refine jv_callS (pc' := 9) (o := none) (σ' := (jv_fl σ 13 10 (1000000000 : Int32))) hE dX2_measureTo_6 rfl lS_X2_20 (ok_J7_fill_53178 (n := 10) (by decide) rfl rfl) rfl (by decide) rfl (Nat.le_of_ble_eq_true rfl) ?_
  show jv_V E 9 [some (.ref 12), some (.int p1), none, none] [] (jv_fl σ 13 10 (1000000000 : Int32))
  refine jv_aload_n (x := 12) (pc' := 10) hE dX2_measureTo_9 rfl 0 rfl rfl ?_
  refine jv_get (v := .ref 13) (pc' := 13) hE dX2_measureTo_10 rfl lF_X2_9 rfl rfl rfl ?_
  refine jv_iload_n (x := p1) (pc' := 14) hE dX2_measureTo_13 rfl 1 rfl rfl ?_
  refine jv_iconst (v := (0 : Int32)) (pc' := 15) hE dX2_measureTo_14 rfl (by decide) ?_
  refine jv_callN (pc' := 18) (o := none) (σ' := (jv_wr (jv_fl σ 13 10 (1000000000 : Int32)) 13 10 p1 (0 : Int32))) hE dX2_measureTo_15 rfl lN_X2_26 (ok_X7_put (n := 10) (by decide) rfl rfl) rfl (by decide) rfl (Nat.le_of_ble_eq_true rfl) ?_
  show jv_V E 18 [some (.ref 12), some (.int p1), none, none] [] (jv_wr (jv_fl σ 13 10 (1000000000 : Int32)) 13 10 p1 (0 : Int32))
  refine jv_iconst (v := (1 : Int32)) (pc' := 19) hE dX2_measureTo_18 rfl (by decide) ?_
  refine jv_istore_n (x := (1 : Int32)) (L' := [some (.ref 12), some (.int p1), some (.int (1 : Int32)), none]) (pc' := 20) hE dX2_measureTo_19 rfl 2 rfl (by decide) rfl rfl ?_
  refine jv_iconst (v := (0 : Int32)) (pc' := 21) hE dX2_measureTo_20 rfl (by decide) ?_
  refine jv_istore_n (x := (0 : Int32)) (L' := [some (.ref 12), some (.int p1), some (.int (1 : Int32)), some (.int (0 : Int32))]) (pc' := 22) hE dX2_measureTo_21 rfl 3 rfl (by decide) rfl rfl ?_
  obtain ⟨q4, hq4, h⟩ := jv_bd_some h
  refine jv_forget [true, false, true, true] (lp_X2_measureTo_12_22 hE jv_fuel true (0 : Int32) (jv_wr (jv_fl σ 13 10 (1000000000 : Int32)) 13 10 p1 (0 : Int32)) _ hq4 ?_)
  cases h
  exact hret _ _ dX2_measureTo_43
set_option maxRecDepth 100000 in
set_option maxHeartbeats 4000000 in
theorem lp_X2_measureTo_15_22 {E : jv_E} (hE : jv_Cx E RX2 cX2_measureTo 4 4) : ∀ (n : Nat) (v2 : Bool) (v3 : Int32) (σ : jv_S) (q : Bool × Int32 × jv_S), f_X2_measureTo_lp22 16 n v2 v3 σ = some q → (jv_V E 43 [none, none, none, none] [] q.2.2) → jv_V E 22 [some (.ref 15), none, some (.int (jv_b v2)), some (.int v3)] [] σ := by
  intro n
  induction n with
  | zero =>
    intro v2 v3 σ q h
    rw [f_X2_measureTo_lp22] at h
    cases h
  | succ n ih =>
    intro v2 v3 σ q h hk
    rw [f_X2_measureTo_lp22] at h
    refine jv_iload_n (x := v3) (pc' := 23) hE dX2_measureTo_22 rfl 3 rfl rfl ?_
    refine jv_bipush (v := (10 : Int32)) (pc' := 25) hE dX2_measureTo_23 rfl (by decide) ?_
    refine jv_icmp_ge (x := v3) (y := (10 : Int32)) (tgt := 43) (pc' := 28) hE dX2_measureTo_25 (by decide) rfl (fun c1 => ?_) (fun c1 => ?_)
    · rw [if_pos c1] at h
      cases h
      exact jv_forget [false, true, false, false] hk
    · rw [if_neg c1] at h
      refine jv_iload_n (x := (jv_b v2)) (pc' := 29) hE dX2_measureTo_28 rfl 2 rfl rfl ?_
      refine jv_if_eq (x := (jv_b v2)) (tgt := 43) (pc' := 32) hE dX2_measureTo_29 (by decide) rfl (fun c2 => ?_) (fun c2 => ?_)
      · have c2 := jv_b0 c2
        rw [if_neg c2] at h
        cases h
        exact jv_forget [false, true, false, false] hk
      · have c2 := jv_b1 c2
        rw [if_pos c2] at h
        refine jv_aload_n (x := 15) (pc' := 33) hE dX2_measureTo_32 rfl 0 rfl rfl ?_
        obtain ⟨q3, hq3, h⟩ := jv_bd_some h
        refine jv_callV (pc' := 36) (o := some (.int (jv_b q3.1))) (σ' := q3.2) hE dX2_measureTo_33 rfl lV_X2_30 (ok_X2_shortenAll_15 hq3) rfl rfl rfl (by decide) rfl (Nat.le_of_ble_eq_true rfl) ?_
        show jv_V E 36 [some (.ref 15), none, some (.int (jv_b v2)), some (.int v3)] [.int (jv_b q3.1)] q3.2
        refine jv_istore_n (x := (jv_b q3.1)) (L' := [some (.ref 15), none, some (.int (jv_b q3.1)), some (.int v3)]) (pc' := 37) hE dX2_measureTo_36 rfl 2 rfl (by decide) rfl rfl ?_
        refine jv_iinc (x := v3) (v := (v3 + (1 : Int32))) (L' := [some (.ref 15), none, some (.int (jv_b q3.1)), some (.int (v3 + (1 : Int32)))]) (pc' := 40) hE dX2_measureTo_37 rfl rfl rfl (by decide) rfl rfl ?_
        refine jv_goto (tgt := 22) hE dX2_measureTo_40 (by decide) ?_
        exact jv_forget [true, true, true, true] (ih q3.1 (v3 + (1 : Int32)) q3.2 _ h hk)
set_option maxRecDepth 100000 in
set_option maxHeartbeats 4000000 in
theorem ok_X2_measureTo_15 {G : jv_G} {l : Launch} {σ : jv_S} {p1 : Int32} {r : jv_S} (h : f_X2_measureTo 16 σ p1 = some r) : jv_Cn G l 4 M_X2_measureTo [.ref 15, .int p1] σ (none) r := by
  refine jv_of (L0 := [some (.ref 15), some (.int p1), none, none]) (by decide +kernel) (Nat.le_of_ble_eq_true rfl) rfl jv_okV (fun E e1 e2 hE hret => ?_)
  unfold f_X2_measureTo at h
  refine jv_aload_n (x := 15) (pc' := 1) hE dX2_measureTo_0 rfl 0 rfl rfl ?_
  refine jv_get (v := .ref 16) (pc' := 4) hE dX2_measureTo_1 rfl lF_X2_9 rfl rfl rfl ?_
  refine jv_ldc (v := (1000000000 : Int32)) (pc' := 6) hE dX2_measureTo_4 rfl lC_X2_19 ?_
  refine jv_callS (pc' := 9) (o := none) (σ' := (jv_fl σ 16 10 (1000000000 : Int32))) hE dX2_measureTo_6 rfl lS_X2_20 (ok_J7_fill_53178 (n := 10) (by decide) rfl rfl) rfl (by decide) rfl (Nat.le_of_ble_eq_true rfl) ?_
  show jv_V E 9 [some (.ref 15), some (.int p1), none, none] [] (jv_fl σ 16 10 (1000000000 : Int32))
  refine jv_aload_n (x := 15) (pc' := 10) hE dX2_measureTo_9 rfl 0 rfl rfl ?_
  refine jv_get (v := .ref 16) (pc' := 13) hE dX2_measureTo_10 rfl lF_X2_9 rfl rfl rfl ?_
  refine jv_iload_n (x := p1) (pc' := 14) hE dX2_measureTo_13 rfl 1 rfl rfl ?_
  refine jv_iconst (v := (0 : Int32)) (pc' := 15) hE dX2_measureTo_14 rfl (by decide) ?_
  refine jv_callN (pc' := 18) (o := none) (σ' := (jv_wr (jv_fl σ 16 10 (1000000000 : Int32)) 16 10 p1 (0 : Int32))) hE dX2_measureTo_15 rfl lN_X2_26 (ok_X7_put (n := 10) (by decide) rfl rfl) rfl (by decide) rfl (Nat.le_of_ble_eq_true rfl) ?_
  show jv_V E 18 [some (.ref 15), some (.int p1), none, none] [] (jv_wr (jv_fl σ 16 10 (1000000000 : Int32)) 16 10 p1 (0 : Int32))
  refine jv_iconst (v := (1 : Int32)) (pc' := 19) hE dX2_measureTo_18 rfl (by decide) ?_
  refine jv_istore_n (x := (1 : Int32)) (L' := [some (.ref 15), some (.int p1), some (.int (1 : Int32)), none]) (pc' := 20) hE dX2_measureTo_19 rfl 2 rfl (by decide) rfl rfl ?_
  refine jv_iconst (v := (0 : Int32)) (pc' := 21) hE dX2_measureTo_20 rfl (by decide) ?_
  refine jv_istore_n (x := (0 : Int32)) (L' := [some (.ref 15), some (.int p1), some (.int (1 : Int32)), some (.int (0 : Int32))]) (pc' := 22) hE dX2_measureTo_21 rfl 3 rfl (by decide) rfl rfl ?_
  obtain ⟨q4, hq4, h⟩ := jv_bd_some h
  refine jv_forget [true, false, true, true] (lp_X2_measureTo_15_22 hE jv_fuel true (0 : Int32) (jv_wr (jv_fl σ 16 10 (1000000000 : Int32)) 16 10 p1 (0 : Int32)) _ hq4 ?_)
  cases h
  exact hret _ _ dX2_measureTo_43
end
section
noncomputable def f_X4_countFrom_lp26 (rec : jv_S → Int32 → Int32 → Int32 → Int32 → Option (Int32)) (a1 : Int32) (a2 : Int32) (a3 : Int32) (a4 : Int32) : Nat → Int32 → Int32 → jv_S → Option (Int32 × Int32)
  | 0, _, _, _ => none
  | n + 1, v6, v7, σ => if (f_X3_outEnd σ a1) ≤ v7 then (some (v6, v7)) else (jv_bd (if (f_X7_hasBit σ a2 (f_X3_headOf σ (f_X3_outEdge σ v7))) = true then (some v6) else (if (f_X2_ofNode 16 σ (f_X3_headOf σ (f_X3_outEdge σ v7))) ≤ (a3 - (f_X3_lengthOf σ (f_X3_outEdge σ v7))) then (jv_bd (if (f_X3_headOf σ (f_X3_outEdge σ v7)) = (σ.1 14 2) then (some (1 : Int32)) else (jv_bd (rec σ (f_X3_headOf σ (f_X3_outEdge σ v7)) (a2 ||| ((1 : Int32) <<< ((f_X3_headOf σ (f_X3_outEdge σ v7)) &&& 31))) (a3 - (f_X3_lengthOf σ (f_X3_outEdge σ v7))) (a4 + (1 : Int32))) (fun q8 => some q8))) (fun q7 => some (v6 + q7))) else (some v6))) (fun q4 => f_X4_countFrom_lp26 rec a1 a2 a3 a4 n q4 (v7 + (1 : Int32)) σ))
noncomputable def f_X4_countFrom : Nat → jv_S → Int32 → Int32 → Int32 → Int32 → Option (Int32)
  | 0, _, _, _, _, _ => none
  | n + 1, σ, p2, p3, p4, p5 => (fun (rec : jv_S → Int32 → Int32 → Int32 → Int32 → Option (Int32)) => if p5 < (9 : Int32) then (jv_bd (f_X4_countFrom_lp26 rec p2 p3 p4 p5 jv_fuel (0 : Int32) (f_X3_outStart σ p2) σ) (fun q9 => some q9.1)) else (some (0 : Int32))) (f_X4_countFrom n)
set_option maxRecDepth 100000 in
set_option maxHeartbeats 4000000 in
theorem lp_X4_countFrom_26 {σ : jv_S} {m : Nat} {rec : jv_S → Int32 → Int32 → Int32 → Int32 → Option (Int32)} {a1 : Int32} {a2 : Int32} {a3 : Int32} {a4 : Int32} {E : jv_E} (hE : jv_Cx E RX4 cX4_countFrom 11 (3 + m + 1)) (hrec : ∀ {σ : jv_S} {p2 : Int32} {p3 : Int32} {p4 : Int32} {p5 : Int32} {q : Int32}, rec σ p2 p3 p4 p5 = some q → jv_Cn (jv_g E) (jv_l E) (3 + m) M_X4_countFrom [.ref 14, .int p2, .int p3, .int p4, .int p5] σ (some (.int q)) σ) : ∀ (n : Nat) (v6 : Int32) (v7 : Int32)  (q : Int32 × Int32), f_X4_countFrom_lp26 rec a1 a2 a3 a4 n v6 v7 σ = some q → (jv_V E 134 [none, none, none, none, none, none, some (.int q.1), none, none, none, none] [] σ) → jv_V E 26 [some (.ref 14), some (.int a1), some (.int a2), some (.int a3), some (.int a4), some (.ref 1), some (.int v6), some (.int v7), none, none, none] [] σ := by
  intro n
  induction n with
  | zero =>
    intro v6 v7 q h
    rw [f_X4_countFrom_lp26] at h
    cases h
  | succ n ih =>
    intro v6 v7 q h hk
    rw [f_X4_countFrom_lp26] at h
    refine jv_iload (x := v7) (pc' := 28) hE dX4_countFrom_26 rfl rfl ?_
    refine jv_aload (x := 1) (pc' := 30) hE dX4_countFrom_28 rfl rfl ?_
    refine jv_iload_n (x := a1) (pc' := 31) hE dX4_countFrom_30 rfl 1 rfl rfl ?_
    refine jv_callV (pc' := 34) (o := some (.int (f_X3_outEnd σ a1))) (σ' := σ) hE dX4_countFrom_31 rfl lV_X4_42 (ok_X3_outEnd rfl) rfl rfl rfl (by omega) rfl (Nat.le_of_ble_eq_true rfl) ?_
    show jv_V E 34 [some (.ref 14), some (.int a1), some (.int a2), some (.int a3), some (.int a4), some (.ref 1), some (.int v6), some (.int v7), none, none, none] [.int (f_X3_outEnd σ a1), .int v7] σ
    refine jv_icmp_ge (x := v7) (y := (f_X3_outEnd σ a1)) (tgt := 134) (pc' := 37) hE dX4_countFrom_34 (by decide) rfl (fun c2 => ?_) (fun c2 => ?_)
    · rw [if_pos c2] at h
      cases h
      exact jv_forget [false, false, false, false, false, false, true, false, true, true, true] hk
    · rw [if_neg c2] at h
      refine jv_aload (x := 1) (pc' := 39) hE dX4_countFrom_37 rfl rfl ?_
      refine jv_iload (x := v7) (pc' := 41) hE dX4_countFrom_39 rfl rfl ?_
      refine jv_callV (pc' := 44) (o := some (.int (f_X3_outEdge σ v7))) (σ' := σ) hE dX4_countFrom_41 rfl lV_X4_45 (ok_X3_outEdge rfl) rfl rfl rfl (by omega) rfl (Nat.le_of_ble_eq_true rfl) ?_
      show jv_V E 44 [some (.ref 14), some (.int a1), some (.int a2), some (.int a3), some (.int a4), some (.ref 1), some (.int v6), some (.int v7), none, none, none] [.int (f_X3_outEdge σ v7)] σ
      refine jv_istore (x := (f_X3_outEdge σ v7)) (L' := [some (.ref 14), some (.int a1), some (.int a2), some (.int a3), some (.int a4), some (.ref 1), some (.int v6), some (.int v7), some (.int (f_X3_outEdge σ v7)), none, none]) (pc' := 46) hE dX4_countFrom_44 rfl (by decide) rfl rfl ?_
      refine jv_aload (x := 1) (pc' := 48) hE dX4_countFrom_46 rfl rfl ?_
      refine jv_iload (x := (f_X3_outEdge σ v7)) (pc' := 50) hE dX4_countFrom_48 rfl rfl ?_
      refine jv_callV (pc' := 53) (o := some (.int (f_X3_headOf σ (f_X3_outEdge σ v7)))) (σ' := σ) hE dX4_countFrom_50 rfl lV_X4_48 (ok_X3_headOf rfl) rfl rfl rfl (by omega) rfl (Nat.le_of_ble_eq_true rfl) ?_
      show jv_V E 53 [some (.ref 14), some (.int a1), some (.int a2), some (.int a3), some (.int a4), some (.ref 1), some (.int v6), some (.int v7), some (.int (f_X3_outEdge σ v7)), none, none] [.int (f_X3_headOf σ (f_X3_outEdge σ v7))] σ
      refine jv_istore (x := (f_X3_headOf σ (f_X3_outEdge σ v7))) (L' := [some (.ref 14), some (.int a1), some (.int a2), some (.int a3), some (.int a4), some (.ref 1), some (.int v6), some (.int v7), some (.int (f_X3_outEdge σ v7)), some (.int (f_X3_headOf σ (f_X3_outEdge σ v7))), none]) (pc' := 55) hE dX4_countFrom_53 rfl (by decide) rfl rfl ?_
      refine jv_iload_n (x := a3) (pc' := 56) hE dX4_countFrom_55 rfl 3 rfl rfl ?_
      refine jv_aload (x := 1) (pc' := 58) hE dX4_countFrom_56 rfl rfl ?_
      refine jv_iload (x := (f_X3_outEdge σ v7)) (pc' := 60) hE dX4_countFrom_58 rfl rfl ?_
      refine jv_callV (pc' := 63) (o := some (.int (f_X3_lengthOf σ (f_X3_outEdge σ v7)))) (σ' := σ) hE dX4_countFrom_60 rfl lV_X4_51 (ok_X3_lengthOf rfl) rfl rfl rfl (by omega) rfl (Nat.le_of_ble_eq_true rfl) ?_
      show jv_V E 63 [some (.ref 14), some (.int a1), some (.int a2), some (.int a3), some (.int a4), some (.ref 1), some (.int v6), some (.int v7), some (.int (f_X3_outEdge σ v7)), some (.int (f_X3_headOf σ (f_X3_outEdge σ v7))), none] [.int (f_X3_lengthOf σ (f_X3_outEdge σ v7)), .int a3] σ
      refine jv_isub (x := a3) (y := (f_X3_lengthOf σ (f_X3_outEdge σ v7))) (pc' := 64) hE dX4_countFrom_63 rfl ?_
      refine jv_istore (x := (a3 - (f_X3_lengthOf σ (f_X3_outEdge σ v7)))) (L' := [some (.ref 14), some (.int a1), some (.int a2), some (.int a3), some (.int a4), some (.ref 1), some (.int v6), some (.int v7), some (.int (f_X3_outEdge σ v7)), some (.int (f_X3_headOf σ (f_X3_outEdge σ v7))), some (.int (a3 - (f_X3_lengthOf σ (f_X3_outEdge σ v7))))]) (pc' := 66) hE dX4_countFrom_64 rfl (by decide) rfl rfl ?_
      refine jv_iload_n (x := a2) (pc' := 67) hE dX4_countFrom_66 rfl 2 rfl rfl ?_
      refine jv_iload (x := (f_X3_headOf σ (f_X3_outEdge σ v7))) (pc' := 69) hE dX4_countFrom_67 rfl rfl ?_
      refine jv_callN (pc' := 72) (o := some (.int (jv_b (f_X7_hasBit σ a2 (f_X3_headOf σ (f_X3_outEdge σ v7)))))) (σ' := σ) hE dX4_countFrom_69 rfl lN_X4_54 (ok_X7_hasBit rfl) rfl (by omega) rfl (Nat.le_of_ble_eq_true rfl) ?_
      show jv_V E 72 [some (.ref 14), some (.int a1), some (.int a2), some (.int a3), some (.int a4), some (.ref 1), some (.int v6), some (.int v7), some (.int (f_X3_outEdge σ v7)), some (.int (f_X3_headOf σ (f_X3_outEdge σ v7))), some (.int (a3 - (f_X3_lengthOf σ (f_X3_outEdge σ v7))))] [.int (jv_b (f_X7_hasBit σ a2 (f_X3_headOf σ (f_X3_outEdge σ v7))))] σ
      obtain ⟨q4, hq4, h⟩ := jv_bd_some h
      have kq4 : jv_V E 128 [some (.ref 14), some (.int a1), some (.int a2), some (.int a3), some (.int a4), some (.ref 1), some (.int q4), some (.int v7), none, none, none] [] σ := by
        refine jv_iinc (x := v7) (v := (v7 + (1 : Int32))) (L' := [some (.ref 14), some (.int a1), some (.int a2), some (.int a3), some (.int a4), some (.ref 1), some (.int q4), some (.int (v7 + (1 : Int32))), none, none, none]) (pc' := 131) hE dX4_countFrom_128 rfl rfl rfl (by decide) rfl rfl ?_
        refine jv_goto (tgt := 26) hE dX4_countFrom_131 (by decide) ?_
        exact jv_forget [true, true, true, true, true, true, true, true, true, true, true] (ih q4 (v7 + (1 : Int32)) _ h hk)
      refine jv_if_ne (x := (jv_b (f_X7_hasBit σ a2 (f_X3_headOf σ (f_X3_outEdge σ v7))))) (tgt := 128) (pc' := 75) hE dX4_countFrom_72 (by decide) rfl (fun c3 => ?_) (fun c3 => ?_)
      · have c3 := jv_b1 c3
        rw [if_pos c3] at hq4
        cases hq4
        exact jv_forget [true, true, true, true, true, true, true, true, false, false, false] kq4
      · have c3 := jv_b0 c3
        rw [if_neg c3] at hq4
        refine jv_aload_n (x := 14) (pc' := 76) hE dX4_countFrom_75 rfl 0 rfl rfl ?_
        refine jv_get (v := .ref 15) (pc' := 79) hE dX4_countFrom_76 rfl lF_X4_20 rfl rfl rfl ?_
        refine jv_iload (x := (f_X3_headOf σ (f_X3_outEdge σ v7))) (pc' := 81) hE dX4_countFrom_79 rfl rfl ?_
        refine jv_callV (pc' := 84) (o := some (.int (f_X2_ofNode 16 σ (f_X3_headOf σ (f_X3_outEdge σ v7))))) (σ' := σ) hE dX4_countFrom_81 rfl lV_X4_58 (ok_X2_ofNode_15 rfl) rfl rfl rfl (by omega) rfl (Nat.le_of_ble_eq_true rfl) ?_
        show jv_V E 84 [some (.ref 14), some (.int a1), some (.int a2), some (.int a3), some (.int a4), some (.ref 1), some (.int v6), some (.int v7), some (.int (f_X3_outEdge σ v7)), some (.int (f_X3_headOf σ (f_X3_outEdge σ v7))), some (.int (a3 - (f_X3_lengthOf σ (f_X3_outEdge σ v7))))] [.int (f_X2_ofNode 16 σ (f_X3_headOf σ (f_X3_outEdge σ v7)))] σ
        refine jv_iload (x := (a3 - (f_X3_lengthOf σ (f_X3_outEdge σ v7)))) (pc' := 86) hE dX4_countFrom_84 rfl rfl ?_
        refine jv_icmp_le (x := (f_X2_ofNode 16 σ (f_X3_headOf σ (f_X3_outEdge σ v7)))) (y := (a3 - (f_X3_lengthOf σ (f_X3_outEdge σ v7)))) (tgt := 92) (pc' := 89) hE dX4_countFrom_86 (by decide) rfl (fun c5 => ?_) (fun c5 => ?_)
        · rw [if_pos c5] at hq4
          refine jv_iload (x := v6) (pc' := 94) hE dX4_countFrom_92 rfl rfl ?_
          refine jv_iload (x := (f_X3_headOf σ (f_X3_outEdge σ v7))) (pc' := 96) hE dX4_countFrom_94 rfl rfl ?_
          refine jv_aload_n (x := 14) (pc' := 97) hE dX4_countFrom_96 rfl 0 rfl rfl ?_
          refine jv_get (v := .int (σ.1 14 2)) (pc' := 100) hE dX4_countFrom_97 rfl lF_X4_24 rfl rfl rfl ?_
          obtain ⟨q7, hq7, hq4⟩ := jv_bd_some hq4
          have kq7 : jv_V E 125 [some (.ref 14), some (.int a1), some (.int a2), some (.int a3), some (.int a4), some (.ref 1), none, some (.int v7), none, none, none] [.int q7, .int v6] σ := by
            refine jv_iadd (x := v6) (y := q7) (pc' := 126) hE dX4_countFrom_125 rfl ?_
            refine jv_istore (x := (v6 + q7)) (L' := [some (.ref 14), some (.int a1), some (.int a2), some (.int a3), some (.int a4), some (.ref 1), some (.int (v6 + q7)), some (.int v7), none, none, none]) (pc' := 128) hE dX4_countFrom_126 rfl (by decide) rfl rfl ?_
            cases hq4
            exact jv_forget [true, true, true, true, true, true, true, true, true, true, true] kq4
          refine jv_icmp_ne (x := (f_X3_headOf σ (f_X3_outEdge σ v7))) (y := (σ.1 14 2)) (tgt := 107) (pc' := 103) hE dX4_countFrom_100 (by decide) rfl (fun c6 => ?_) (fun c6 => ?_)
          · rw [if_neg c6] at hq7
            refine jv_aload_n (x := 14) (pc' := 108) hE dX4_countFrom_107 rfl 0 rfl rfl ?_
            refine jv_iload (x := (f_X3_headOf σ (f_X3_outEdge σ v7))) (pc' := 110) hE dX4_countFrom_108 rfl rfl ?_
            refine jv_iload_n (x := a2) (pc' := 111) hE dX4_countFrom_110 rfl 2 rfl rfl ?_
            refine jv_iconst (v := (1 : Int32)) (pc' := 112) hE dX4_countFrom_111 rfl (by decide) ?_
            refine jv_iload (x := (f_X3_headOf σ (f_X3_outEdge σ v7))) (pc' := 114) hE dX4_countFrom_112 rfl rfl ?_
            refine jv_ishl (x := (1 : Int32)) (y := (f_X3_headOf σ (f_X3_outEdge σ v7))) (pc' := 115) hE dX4_countFrom_114 rfl ?_
            refine jv_ior (x := a2) (y := ((1 : Int32) <<< ((f_X3_headOf σ (f_X3_outEdge σ v7)) &&& 31))) (pc' := 116) hE dX4_countFrom_115 rfl ?_
            refine jv_iload (x := (a3 - (f_X3_lengthOf σ (f_X3_outEdge σ v7)))) (pc' := 118) hE dX4_countFrom_116 rfl rfl ?_
            refine jv_iload (x := a4) (pc' := 120) hE dX4_countFrom_118 rfl rfl ?_
            refine jv_iconst (v := (1 : Int32)) (pc' := 121) hE dX4_countFrom_120 rfl (by decide) ?_
            refine jv_iadd (x := a4) (y := (1 : Int32)) (pc' := 122) hE dX4_countFrom_121 rfl ?_
            obtain ⟨q8, hq8, hq7⟩ := jv_bd_some hq7
            refine jv_callS (pc' := 125) (o := some (.int q8)) (σ' := σ) hE dX4_countFrom_122 rfl lS_X4_32 (hrec hq8) rfl (by omega) rfl (Nat.le_of_ble_eq_true rfl) ?_
            show jv_V E 125 [some (.ref 14), some (.int a1), some (.int a2), some (.int a3), some (.int a4), some (.ref 1), some (.int v6), some (.int v7), some (.int (f_X3_outEdge σ v7)), some (.int (f_X3_headOf σ (f_X3_outEdge σ v7))), some (.int (a3 - (f_X3_lengthOf σ (f_X3_outEdge σ v7))))] [.int q8, .int v6] σ
            cases hq7
            exact jv_forget [true, true, true, true, true, true, false, true, false, false, false] kq7
          · rw [if_pos c6] at hq7
            refine jv_iconst (v := (1 : Int32)) (pc' := 104) hE dX4_countFrom_103 rfl (by decide) ?_
            refine jv_goto (tgt := 125) hE dX4_countFrom_104 (by decide) ?_
            cases hq7
            exact jv_forget [true, true, true, true, true, true, false, true, false, false, false] kq7
        · rw [if_neg c5] at hq4
          refine jv_goto (tgt := 128) hE dX4_countFrom_89 (by decide) ?_
          cases hq4
          exact jv_forget [true, true, true, true, true, true, true, true, false, false, false] kq4
set_option maxRecDepth 100000 in
set_option maxHeartbeats 4000000 in
theorem ok_X4_countFrom_n {G : jv_G} {l : Launch} : ∀ (m : Nat) {σ : jv_S} {p2 : Int32} {p3 : Int32} {p4 : Int32} {p5 : Int32} {r : Int32}, f_X4_countFrom m σ p2 p3 p4 p5 = some r → jv_Cn G l (3 + m) M_X4_countFrom [.ref 14, .int p2, .int p3, .int p4, .int p5] σ (some (.int r)) σ := by
  intro m
  induction m with
  | zero =>
    intro σ p2 p3 p4 p5 r h
    rw [f_X4_countFrom] at h
    cases h
  | succ m ih =>
    intro σ p2 p3 p4 p5 r h
    rw [f_X4_countFrom] at h
    refine jv_of (L0 := [some (.ref 14), some (.int p2), some (.int p3), some (.int p4), some (.int p5), none, none, none, none, none, none]) (by decide +kernel) (Nat.le_of_ble_eq_true rfl) rfl (jv_okI _) (fun E e1 e2 hE hret => ?_)
    subst e1; subst e2
    generalize f_X4_countFrom m = rec at ih h
    have hrec := @ih
    dsimp only at h
    refine jv_iload (x := p5) (pc' := 2) hE dX4_countFrom_0 rfl rfl ?_
    refine jv_bipush (v := (9 : Int32)) (pc' := 4) hE dX4_countFrom_2 rfl (by decide) ?_
    refine jv_icmp_lt (x := p5) (y := (9 : Int32)) (tgt := 9) (pc' := 7) hE dX4_countFrom_4 (by decide) rfl (fun c1 => ?_) (fun c1 => ?_)
    · rw [if_pos c1] at h
      refine jv_aload_n (x := 14) (pc' := 10) hE dX4_countFrom_9 rfl 0 rfl rfl ?_
      refine jv_get (v := .ref 1) (pc' := 13) hE dX4_countFrom_10 rfl lF_X4_9 rfl rfl rfl ?_
      refine jv_astore (x := 1) (L' := [some (.ref 14), some (.int p2), some (.int p3), some (.int p4), some (.int p5), some (.ref 1), none, none, none, none, none]) (pc' := 15) hE dX4_countFrom_13 rfl (by decide) rfl rfl ?_
      refine jv_iconst (v := (0 : Int32)) (pc' := 16) hE dX4_countFrom_15 rfl (by decide) ?_
      refine jv_istore (x := (0 : Int32)) (L' := [some (.ref 14), some (.int p2), some (.int p3), some (.int p4), some (.int p5), some (.ref 1), some (.int (0 : Int32)), none, none, none, none]) (pc' := 18) hE dX4_countFrom_16 rfl (by decide) rfl rfl ?_
      refine jv_aload (x := 1) (pc' := 20) hE dX4_countFrom_18 rfl rfl ?_
      refine jv_iload_n (x := p2) (pc' := 21) hE dX4_countFrom_20 rfl 1 rfl rfl ?_
      refine jv_callV (pc' := 24) (o := some (.int (f_X3_outStart σ p2))) (σ' := σ) hE dX4_countFrom_21 rfl lV_X4_36 (ok_X3_outStart rfl) rfl rfl rfl (by omega) rfl (Nat.le_of_ble_eq_true rfl) ?_
      show jv_V E 24 [some (.ref 14), some (.int p2), some (.int p3), some (.int p4), some (.int p5), some (.ref 1), some (.int (0 : Int32)), none, none, none, none] [.int (f_X3_outStart σ p2)] σ
      refine jv_istore (x := (f_X3_outStart σ p2)) (L' := [some (.ref 14), some (.int p2), some (.int p3), some (.int p4), some (.int p5), some (.ref 1), some (.int (0 : Int32)), some (.int (f_X3_outStart σ p2)), none, none, none]) (pc' := 26) hE dX4_countFrom_24 rfl (by decide) rfl rfl ?_
      obtain ⟨q9, hq9, h⟩ := jv_bd_some h
      refine jv_forget [true, true, true, true, true, true, true, true, true, true, true] (lp_X4_countFrom_26 hE hrec jv_fuel (0 : Int32) (f_X3_outStart σ p2) _ hq9 ?_)
      refine jv_iload (x := q9.1) (pc' := 136) hE dX4_countFrom_134 rfl rfl ?_
      cases h
      exact hret _ _ dX4_countFrom_136
    · rw [if_neg c1] at h
      refine jv_iconst (v := (0 : Int32)) (pc' := 8) hE dX4_countFrom_7 rfl (by decide) ?_
      cases h
      exact hret _ _ dX4_countFrom_8
theorem ok_X4_countFrom {G : jv_G} {l : Launch} {σ : jv_S} {p2 : Int32} {p3 : Int32} {p4 : Int32} {p5 : Int32} {r : Int32} (h : f_X4_countFrom 12 σ p2 p3 p4 p5 = some r) : jv_Cn G l 15 M_X4_countFrom [.ref 14, .int p2, .int p3, .int p4, .int p5] σ (some (.int r)) σ := ok_X4_countFrom_n 12 h
noncomputable def f_X4_upTo (σ : jv_S) (p1 : Int32) (p2 : Int32) (p3 : Int32) : Option (Int32 × jv_S) := jv_bd (f_X2_measureTo 16 (jv_si σ 14 2 p2) p2) (fun q1 => jv_bd (f_X4_countFrom 12 q1 p1 ((1 : Int32) <<< (p1 &&& 31)) p3 (0 : Int32)) (fun q2 => some (q2, q1)))
set_option maxRecDepth 100000 in
set_option maxHeartbeats 4000000 in
theorem ok_X4_upTo {G : jv_G} {l : Launch} {σ : jv_S} {p1 : Int32} {p2 : Int32} {p3 : Int32} {r : Int32 × jv_S} (h : f_X4_upTo σ p1 p2 p3 = some r) : jv_Cn G l 16 M_X4_upTo [.ref 14, .int p1, .int p2, .int p3] σ (some (.int r.1)) r.2 := by
  refine jv_of (L0 := [some (.ref 14), some (.int p1), some (.int p2), some (.int p3)]) (by decide +kernel) (Nat.le_of_ble_eq_true rfl) rfl (jv_okI _) (fun E e1 e2 hE hret => ?_)
  unfold f_X4_upTo at h
  refine jv_aload_n (x := 14) (pc' := 1) hE dX4_upTo_0 rfl 0 rfl rfl ?_
  refine jv_iload_n (x := p2) (pc' := 2) hE dX4_upTo_1 rfl 2 rfl rfl ?_
  refine jv_puti (x := p2) (pc' := 5) hE dX4_upTo_2 rfl lP_X4_24 rfl rfl rfl rfl ?_
  refine jv_aload_n (x := 14) (pc' := 6) hE dX4_upTo_5 rfl 0 rfl rfl ?_
  refine jv_get (v := .ref 15) (pc' := 9) hE dX4_upTo_6 rfl lF_X4_20 rfl rfl rfl ?_
  refine jv_iload_n (x := p2) (pc' := 10) hE dX4_upTo_9 rfl 2 rfl rfl ?_
  obtain ⟨q1, hq1, h⟩ := jv_bd_some h
  refine jv_callV (pc' := 13) (o := none) (σ' := q1) hE dX4_upTo_10 rfl lV_X4_28 (ok_X2_measureTo_15 hq1) rfl rfl rfl (by decide) rfl (Nat.le_of_ble_eq_true rfl) ?_
  show jv_V E 13 [some (.ref 14), some (.int p1), some (.int p2), some (.int p3)] [] q1
  refine jv_aload_n (x := 14) (pc' := 14) hE dX4_upTo_13 rfl 0 rfl rfl ?_
  refine jv_iload_n (x := p1) (pc' := 15) hE dX4_upTo_14 rfl 1 rfl rfl ?_
  refine jv_iconst (v := (1 : Int32)) (pc' := 16) hE dX4_upTo_15 rfl (by decide) ?_
  refine jv_iload_n (x := p1) (pc' := 17) hE dX4_upTo_16 rfl 1 rfl rfl ?_
  refine jv_ishl (x := (1 : Int32)) (y := p1) (pc' := 18) hE dX4_upTo_17 rfl ?_
  refine jv_iload_n (x := p3) (pc' := 19) hE dX4_upTo_18 rfl 3 rfl rfl ?_
  refine jv_iconst (v := (0 : Int32)) (pc' := 20) hE dX4_upTo_19 rfl (by decide) ?_
  obtain ⟨q2, hq2, h⟩ := jv_bd_some h
  refine jv_callS (pc' := 23) (o := some (.int q2)) (σ' := q1) hE dX4_upTo_20 rfl lS_X4_32 (ok_X4_countFrom hq2) rfl (by decide) rfl (Nat.le_of_ble_eq_true rfl) ?_
  show jv_V E 23 [some (.ref 14), some (.int p1), some (.int p2), some (.int p3)] [.int q2] q1
  cases h
  exact hret _ _ dX4_upTo_23
end
section
noncomputable def f_X0_lengthFrom (σ : jv_S) (p1 : Int32) : Int32 := jv_lt (if p1 = (-1 : Int32) then ((1000000000 : Int32)) else ((jv_rd (σ.1 33) 24 0 p1))) (fun q2 => q2)
set_option maxRecDepth 100000 in
set_option maxHeartbeats 4000000 in
theorem ok_X0_lengthFrom {G : jv_G} {l : Launch} {σ : jv_S} {p1 : Int32} {r : Int32} (h : f_X0_lengthFrom σ p1 = r) : jv_Cn G l 2 M_X0_lengthFrom [.ref 32, .int p1] σ (some (.int r)) σ := by
  refine jv_of (L0 := [some (.ref 32), some (.int p1)]) (by decide +kernel) (Nat.le_of_ble_eq_true rfl) rfl (jv_okI _) (fun E e1 e2 hE hret => ?_)
  unfold f_X0_lengthFrom at h
  refine jv_iload_n (x := p1) (pc' := 1) hE dX0_lengthFrom_0 rfl 1 rfl rfl ?_
  refine jv_iconst (v := (-1 : Int32)) (pc' := 2) hE dX0_lengthFrom_1 rfl (by decide) ?_
  obtain ⟨q2, hq2, h⟩ := jv_lt_eq h
  have kq2 : jv_V E 18 [none, none] [.int q2] σ := by
    cases h
    exact hret _ _ dX0_lengthFrom_18
  refine jv_icmp_ne (x := p1) (y := (-1 : Int32)) (tgt := 10) (pc' := 5) hE dX0_lengthFrom_2 (by decide) rfl (fun c1 => ?_) (fun c1 => ?_)
  · rw [if_neg c1] at hq2
    refine jv_aload_n (x := 32) (pc' := 11) hE dX0_lengthFrom_10 rfl 0 rfl rfl ?_
    refine jv_get (v := .ref 33) (pc' := 14) hE dX0_lengthFrom_11 rfl lF_X0_9 rfl rfl rfl ?_
    refine jv_iload_n (x := p1) (pc' := 15) hE dX0_lengthFrom_14 rfl 1 rfl rfl ?_
    refine jv_callN (pc' := 18) (o := some (.int (jv_rd (σ.1 33) 24 0 p1))) (σ' := σ) hE dX0_lengthFrom_15 rfl lN_X0_68 (ok_X7_at (n := 24) (by decide) rfl rfl) rfl (by decide) rfl (Nat.le_of_ble_eq_true rfl) ?_
    show jv_V E 18 [some (.ref 32), some (.int p1)] [.int (jv_rd (σ.1 33) 24 0 p1)] σ
    cases hq2
    exact jv_forget [false, false] kq2
  · rw [if_pos c1] at hq2
    refine jv_ldc (v := (1000000000 : Int32)) (pc' := 7) hE dX0_lengthFrom_5 rfl lC_X0_47 ?_
    refine jv_goto (tgt := 18) hE dX0_lengthFrom_7 (by decide) ?_
    cases hq2
    exact jv_forget [false, false] kq2
noncomputable def f_X0_bestAfter_lp16 (a1 : Int32) (a2 : Int32) : Nat → Int32 → Int32 → Int32 → jv_S → Option (Int32 × Int32 × Int32)
  | 0, _, _, _, _ => none
  | n + 1, v3, v4, v5, σ => if (f_X3_outEnd σ a2) ≤ v5 then (some (v3, v4, v5)) else (jv_lt (if a1 = (-1 : Int32) then (false) else (if (f_X3_isForbidden σ a1 (f_X3_outEdge σ v5)) = true then (true) else (false))) (fun q3 => jv_lt (if q3 = true then ((v3, v4)) else (if v4 ≤ (f_X0_lengthFrom σ (f_X3_outEdge σ v5)) then ((v3, v4)) else (((f_X3_outEdge σ v5), (f_X0_lengthFrom σ (f_X3_outEdge σ v5)))))) (fun q6 => f_X0_bestAfter_lp16 a1 a2 n q6.1 q6.2 (v5 + (1 : Int32)) σ)))
noncomputable def f_X0_bestAfter (σ : jv_S) (p1 : Int32) (p2 : Int32) : Option (Int32) := jv_bd (f_X0_bestAfter_lp16 p1 p2 jv_fuel (-1 : Int32) (1000000000 : Int32) (f_X3_outStart σ p2) σ) (fun q8 => some q8.1)
set_option maxRecDepth 100000 in
set_option maxHeartbeats 4000000 in
theorem lp_X0_bestAfter_16 {σ : jv_S} {a1 : Int32} {a2 : Int32} {E : jv_E} (hE : jv_Cx E RX0 cX0_bestAfter 8 3) : ∀ (n : Nat) (v3 : Int32) (v4 : Int32) (v5 : Int32)  (q : Int32 × Int32 × Int32), f_X0_bestAfter_lp16 a1 a2 n v3 v4 v5 σ = some q → (jv_V E 98 [none, none, none, some (.int q.1), none, none, none, none] [] σ) → jv_V E 16 [some (.ref 32), some (.int a1), some (.int a2), some (.int v3), some (.int v4), some (.int v5), none, none] [] σ := by
  intro n
  induction n with
  | zero =>
    intro v3 v4 v5 q h
    rw [f_X0_bestAfter_lp16] at h
    cases h
  | succ n ih =>
    intro v3 v4 v5 q h hk
    rw [f_X0_bestAfter_lp16] at h
    refine jv_iload (x := v5) (pc' := 18) hE dX0_bestAfter_16 rfl rfl ?_
    refine jv_aload_n (x := 32) (pc' := 19) hE dX0_bestAfter_18 rfl 0 rfl rfl ?_
    refine jv_get (v := .ref 1) (pc' := 22) hE dX0_bestAfter_19 rfl lF_X0_18 rfl rfl rfl ?_
    refine jv_iload_n (x := a2) (pc' := 23) hE dX0_bestAfter_22 rfl 2 rfl rfl ?_
    refine jv_callV (pc' := 26) (o := some (.int (f_X3_outEnd σ a2))) (σ' := σ) hE dX0_bestAfter_23 rfl lV_X0_75 (ok_X3_outEnd rfl) rfl rfl rfl (by decide) rfl (Nat.le_of_ble_eq_true rfl) ?_
    show jv_V E 26 [some (.ref 32), some (.int a1), some (.int a2), some (.int v3), some (.int v4), some (.int v5), none, none] [.int (f_X3_outEnd σ a2), .int v5] σ
    refine jv_icmp_ge (x := v5) (y := (f_X3_outEnd σ a2)) (tgt := 98) (pc' := 29) hE dX0_bestAfter_26 (by decide) rfl (fun c1 => ?_) (fun c1 => ?_)
    · rw [if_pos c1] at h
      cases h
      exact jv_forget [false, false, false, true, false, false, true, true] hk
    · rw [if_neg c1] at h
      refine jv_aload_n (x := 32) (pc' := 30) hE dX0_bestAfter_29 rfl 0 rfl rfl ?_
      refine jv_get (v := .ref 1) (pc' := 33) hE dX0_bestAfter_30 rfl lF_X0_18 rfl rfl rfl ?_
      refine jv_iload (x := v5) (pc' := 35) hE dX0_bestAfter_33 rfl rfl ?_
      refine jv_callV (pc' := 38) (o := some (.int (f_X3_outEdge σ v5))) (σ' := σ) hE dX0_bestAfter_35 rfl lV_X0_62 (ok_X3_outEdge rfl) rfl rfl rfl (by decide) rfl (Nat.le_of_ble_eq_true rfl) ?_
      show jv_V E 38 [some (.ref 32), some (.int a1), some (.int a2), some (.int v3), some (.int v4), some (.int v5), none, none] [.int (f_X3_outEdge σ v5)] σ
      refine jv_istore (x := (f_X3_outEdge σ v5)) (L' := [some (.ref 32), some (.int a1), some (.int a2), some (.int v3), some (.int v4), some (.int v5), some (.int (f_X3_outEdge σ v5)), none]) (pc' := 40) hE dX0_bestAfter_38 rfl (by decide) rfl rfl ?_
      refine jv_iload_n (x := a1) (pc' := 41) hE dX0_bestAfter_40 rfl 1 rfl rfl ?_
      refine jv_iconst (v := (-1 : Int32)) (pc' := 42) hE dX0_bestAfter_41 rfl (by decide) ?_
      obtain ⟨q3, hq3, h⟩ := jv_lt_eq h
      have kq3 : jv_V E 63 [some (.ref 32), some (.int a1), some (.int a2), some (.int v3), some (.int v4), some (.int v5), some (.int (f_X3_outEdge σ v5)), none] [.int (jv_b q3)] σ := by
        refine jv_istore (x := (jv_b q3)) (L' := [some (.ref 32), some (.int a1), some (.int a2), some (.int v3), some (.int v4), some (.int v5), some (.int (f_X3_outEdge σ v5)), some (.int (jv_b q3))]) (pc' := 65) hE dX0_bestAfter_63 rfl (by decide) rfl rfl ?_
        refine jv_iload (x := (jv_b q3)) (pc' := 67) hE dX0_bestAfter_65 rfl rfl ?_
        obtain ⟨q6, hq6, h⟩ := jv_lt_eq h
        have kq6 : jv_V E 92 [some (.ref 32), some (.int a1), some (.int a2), some (.int q6.1), some (.int q6.2), some (.int v5), none, none] [] σ := by
          refine jv_iinc (x := v5) (v := (v5 + (1 : Int32))) (L' := [some (.ref 32), some (.int a1), some (.int a2), some (.int q6.1), some (.int q6.2), some (.int (v5 + (1 : Int32))), none, none]) (pc' := 95) hE dX0_bestAfter_92 rfl rfl rfl (by decide) rfl rfl ?_
          refine jv_goto (tgt := 16) hE dX0_bestAfter_95 (by decide) ?_
          exact jv_forget [true, true, true, true, true, true, true, true] (ih q6.1 q6.2 (v5 + (1 : Int32)) _ h hk)
        refine jv_if_ne (x := (jv_b q3)) (tgt := 92) (pc' := 70) hE dX0_bestAfter_67 (by decide) rfl (fun c5 => ?_) (fun c5 => ?_)
        · have c5 := jv_b1 c5
          rw [if_pos c5] at hq6
          cases hq6
          exact jv_forget [true, true, true, true, true, true, false, false] kq6
        · have c5 := jv_b0 c5
          rw [if_neg c5] at hq6
          refine jv_aload_n (x := 32) (pc' := 71) hE dX0_bestAfter_70 rfl 0 rfl rfl ?_
          refine jv_iload (x := (f_X3_outEdge σ v5)) (pc' := 73) hE dX0_bestAfter_71 rfl rfl ?_
          refine jv_callV (pc' := 76) (o := some (.int (f_X0_lengthFrom σ (f_X3_outEdge σ v5)))) (σ' := σ) hE dX0_bestAfter_73 rfl lV_X0_34 (ok_X0_lengthFrom rfl) rfl rfl rfl (by decide) rfl (Nat.le_of_ble_eq_true rfl) ?_
          show jv_V E 76 [some (.ref 32), some (.int a1), some (.int a2), some (.int v3), some (.int v4), some (.int v5), some (.int (f_X3_outEdge σ v5)), some (.int (jv_b q3))] [.int (f_X0_lengthFrom σ (f_X3_outEdge σ v5))] σ
          refine jv_iload (x := v4) (pc' := 78) hE dX0_bestAfter_76 rfl rfl ?_
          refine jv_icmp_ge (x := (f_X0_lengthFrom σ (f_X3_outEdge σ v5))) (y := v4) (tgt := 92) (pc' := 81) hE dX0_bestAfter_78 (by decide) rfl (fun c7 => ?_) (fun c7 => ?_)
          · rw [if_pos c7] at hq6
            cases hq6
            exact jv_forget [true, true, true, true, true, true, false, false] kq6
          · rw [if_neg c7] at hq6
            refine jv_aload_n (x := 32) (pc' := 82) hE dX0_bestAfter_81 rfl 0 rfl rfl ?_
            refine jv_iload (x := (f_X3_outEdge σ v5)) (pc' := 84) hE dX0_bestAfter_82 rfl rfl ?_
            refine jv_callV (pc' := 87) (o := some (.int (f_X0_lengthFrom σ (f_X3_outEdge σ v5)))) (σ' := σ) hE dX0_bestAfter_84 rfl lV_X0_34 (ok_X0_lengthFrom rfl) rfl rfl rfl (by decide) rfl (Nat.le_of_ble_eq_true rfl) ?_
            show jv_V E 87 [some (.ref 32), some (.int a1), some (.int a2), some (.int v3), some (.int v4), some (.int v5), some (.int (f_X3_outEdge σ v5)), some (.int (jv_b q3))] [.int (f_X0_lengthFrom σ (f_X3_outEdge σ v5))] σ
            refine jv_istore (x := (f_X0_lengthFrom σ (f_X3_outEdge σ v5))) (L' := [some (.ref 32), some (.int a1), some (.int a2), some (.int v3), some (.int (f_X0_lengthFrom σ (f_X3_outEdge σ v5))), some (.int v5), some (.int (f_X3_outEdge σ v5)), some (.int (jv_b q3))]) (pc' := 89) hE dX0_bestAfter_87 rfl (by decide) rfl rfl ?_
            refine jv_iload (x := (f_X3_outEdge σ v5)) (pc' := 91) hE dX0_bestAfter_89 rfl rfl ?_
            refine jv_istore_n (x := (f_X3_outEdge σ v5)) (L' := [some (.ref 32), some (.int a1), some (.int a2), some (.int (f_X3_outEdge σ v5)), some (.int (f_X0_lengthFrom σ (f_X3_outEdge σ v5))), some (.int v5), some (.int (f_X3_outEdge σ v5)), some (.int (jv_b q3))]) (pc' := 92) hE dX0_bestAfter_91 rfl 3 rfl (by decide) rfl rfl ?_
            cases hq6
            exact jv_forget [true, true, true, true, true, true, false, false] kq6
      refine jv_icmp_eq (x := a1) (y := (-1 : Int32)) (tgt := 62) (pc' := 45) hE dX0_bestAfter_42 (by decide) rfl (fun c2 => ?_) (fun c2 => ?_)
      · rw [if_pos c2] at hq3
        refine jv_iconst (v := (0 : Int32)) (pc' := 63) hE dX0_bestAfter_62 rfl (by decide) ?_
        cases hq3
        exact jv_forget [true, true, true, true, true, true, true, true] kq3
      · rw [if_neg c2] at hq3
        refine jv_aload_n (x := 32) (pc' := 46) hE dX0_bestAfter_45 rfl 0 rfl rfl ?_
        refine jv_get (v := .ref 1) (pc' := 49) hE dX0_bestAfter_46 rfl lF_X0_18 rfl rfl rfl ?_
        refine jv_iload_n (x := a1) (pc' := 50) hE dX0_bestAfter_49 rfl 1 rfl rfl ?_
        refine jv_iload (x := (f_X3_outEdge σ v5)) (pc' := 52) hE dX0_bestAfter_50 rfl rfl ?_
        refine jv_callV (pc' := 55) (o := some (.int (jv_b (f_X3_isForbidden σ a1 (f_X3_outEdge σ v5))))) (σ' := σ) hE dX0_bestAfter_52 rfl lV_X0_78 (ok_X3_isForbidden rfl) rfl rfl rfl (by decide) rfl (Nat.le_of_ble_eq_true rfl) ?_
        show jv_V E 55 [some (.ref 32), some (.int a1), some (.int a2), some (.int v3), some (.int v4), some (.int v5), some (.int (f_X3_outEdge σ v5)), none] [.int (jv_b (f_X3_isForbidden σ a1 (f_X3_outEdge σ v5)))] σ
        refine jv_if_eq (x := (jv_b (f_X3_isForbidden σ a1 (f_X3_outEdge σ v5)))) (tgt := 62) (pc' := 58) hE dX0_bestAfter_55 (by decide) rfl (fun c4 => ?_) (fun c4 => ?_)
        · have c4 := jv_b0 c4
          rw [if_neg c4] at hq3
          refine jv_iconst (v := (0 : Int32)) (pc' := 63) hE dX0_bestAfter_62 rfl (by decide) ?_
          cases hq3
          exact jv_forget [true, true, true, true, true, true, true, true] kq3
        · have c4 := jv_b1 c4
          rw [if_pos c4] at hq3
          refine jv_iconst (v := (1 : Int32)) (pc' := 59) hE dX0_bestAfter_58 rfl (by decide) ?_
          refine jv_goto (tgt := 63) hE dX0_bestAfter_59 (by decide) ?_
          cases hq3
          exact jv_forget [true, true, true, true, true, true, true, true] kq3
set_option maxRecDepth 100000 in
set_option maxHeartbeats 4000000 in
theorem ok_X0_bestAfter {G : jv_G} {l : Launch} {σ : jv_S} {p1 : Int32} {p2 : Int32} {r : Int32} (h : f_X0_bestAfter σ p1 p2 = some r) : jv_Cn G l 3 M_X0_bestAfter [.ref 32, .int p1, .int p2] σ (some (.int r)) σ := by
  refine jv_of (L0 := [some (.ref 32), some (.int p1), some (.int p2), none, none, none, none, none]) (by decide +kernel) (Nat.le_of_ble_eq_true rfl) rfl (jv_okI _) (fun E e1 e2 hE hret => ?_)
  unfold f_X0_bestAfter at h
  refine jv_iconst (v := (-1 : Int32)) (pc' := 1) hE dX0_bestAfter_0 rfl (by decide) ?_
  refine jv_istore_n (x := (-1 : Int32)) (L' := [some (.ref 32), some (.int p1), some (.int p2), some (.int (-1 : Int32)), none, none, none, none]) (pc' := 2) hE dX0_bestAfter_1 rfl 3 rfl (by decide) rfl rfl ?_
  refine jv_ldc (v := (1000000000 : Int32)) (pc' := 4) hE dX0_bestAfter_2 rfl lC_X0_47 ?_
  refine jv_istore (x := (1000000000 : Int32)) (L' := [some (.ref 32), some (.int p1), some (.int p2), some (.int (-1 : Int32)), some (.int (1000000000 : Int32)), none, none, none]) (pc' := 6) hE dX0_bestAfter_4 rfl (by decide) rfl rfl ?_
  refine jv_aload_n (x := 32) (pc' := 7) hE dX0_bestAfter_6 rfl 0 rfl rfl ?_
  refine jv_get (v := .ref 1) (pc' := 10) hE dX0_bestAfter_7 rfl lF_X0_18 rfl rfl rfl ?_
  refine jv_iload_n (x := p2) (pc' := 11) hE dX0_bestAfter_10 rfl 2 rfl rfl ?_
  refine jv_callV (pc' := 14) (o := some (.int (f_X3_outStart σ p2))) (σ' := σ) hE dX0_bestAfter_11 rfl lV_X0_72 (ok_X3_outStart rfl) rfl rfl rfl (by decide) rfl (Nat.le_of_ble_eq_true rfl) ?_
  show jv_V E 14 [some (.ref 32), some (.int p1), some (.int p2), some (.int (-1 : Int32)), some (.int (1000000000 : Int32)), none, none, none] [.int (f_X3_outStart σ p2)] σ
  refine jv_istore (x := (f_X3_outStart σ p2)) (L' := [some (.ref 32), some (.int p1), some (.int p2), some (.int (-1 : Int32)), some (.int (1000000000 : Int32)), some (.int (f_X3_outStart σ p2)), none, none]) (pc' := 16) hE dX0_bestAfter_14 rfl (by decide) rfl rfl ?_
  obtain ⟨q8, hq8, h⟩ := jv_bd_some h
  refine jv_forget [true, true, true, true, true, true, true, true] (lp_X0_bestAfter_16 hE jv_fuel (-1 : Int32) (1000000000 : Int32) (f_X3_outStart σ p2) _ hq8 ?_)
  refine jv_iload_n (x := q8.1) (pc' := 99) hE dX0_bestAfter_98 rfl 3 rfl rfl ?_
  cases h
  exact hret _ _ dX0_bestAfter_99
noncomputable def f_X0_shortenAll_lp4 (a1 : Int32) : Nat → Bool → Int32 → jv_S → Option (Bool × Int32 × jv_S)
  | 0, _, _, _ => none
  | n + 1, v2, v3, σ => if (f_X3_usableTotal σ) ≤ v3 then (some (v2, v3, σ)) else (jv_bd (if (f_X3_headOf σ (f_X3_outEdge σ v3)) = a1 then (some (0 : Int32)) else (jv_bd (f_X0_bestAfter σ (f_X3_outEdge σ v3) (f_X3_headOf σ (f_X3_outEdge σ v3))) (fun q4 => some (f_X0_lengthFrom σ q4)))) (fun q3 => jv_lt (if (f_X0_lengthFrom σ (f_X3_outEdge σ v3)) ≤ ((f_X3_lengthOf σ (f_X3_outEdge σ v3)) + q3) then ((v2, σ)) else ((true, (jv_wr σ 33 24 (f_X3_outEdge σ v3) ((f_X3_lengthOf σ (f_X3_outEdge σ v3)) + q3))))) (fun q6 => f_X0_shortenAll_lp4 a1 n q6.1 (v3 + (1 : Int32)) q6.2)))
noncomputable def f_X0_shortenAll (σ : jv_S) (p1 : Int32) : Option (Bool × jv_S) := jv_bd (f_X0_shortenAll_lp4 p1 jv_fuel false (0 : Int32) σ) (fun q7 => some (q7.1, q7.2.2))
set_option maxRecDepth 100000 in
set_option maxHeartbeats 4000000 in
theorem lp_X0_shortenAll_4 {a1 : Int32} {E : jv_E} (hE : jv_Cx E RX0 cX0_shortenAll 8 4) : ∀ (n : Nat) (v2 : Bool) (v3 : Int32) (σ : jv_S) (q : Bool × Int32 × jv_S), f_X0_shortenAll_lp4 a1 n v2 v3 σ = some q → (jv_V E 104 [none, none, some (.int (jv_b q.1)), none, none, none, none, none] [] q.2.2) → jv_V E 4 [some (.ref 32), some (.int a1), some (.int (jv_b v2)), some (.int v3), none, none, none, none] [] σ := by
  intro n
  induction n with
  | zero =>
    intro v2 v3 σ q h
    rw [f_X0_shortenAll_lp4] at h
    cases h
  | succ n ih =>
    intro v2 v3 σ q h hk
    rw [f_X0_shortenAll_lp4] at h
    refine jv_iload_n (x := v3) (pc' := 5) hE dX0_shortenAll_4 rfl 3 rfl rfl ?_
    refine jv_aload_n (x := 32) (pc' := 6) hE dX0_shortenAll_5 rfl 0 rfl rfl ?_
    refine jv_get (v := .ref 1) (pc' := 9) hE dX0_shortenAll_6 rfl lF_X0_18 rfl rfl rfl ?_
    refine jv_callV (pc' := 12) (o := some (.int (f_X3_usableTotal σ))) (σ' := σ) hE dX0_shortenAll_9 rfl lV_X0_58 (ok_X3_usableTotal rfl) rfl rfl rfl (by decide) rfl (Nat.le_of_ble_eq_true rfl) ?_
    show jv_V E 12 [some (.ref 32), some (.int a1), some (.int (jv_b v2)), some (.int v3), none, none, none, none] [.int (f_X3_usableTotal σ), .int v3] σ
    refine jv_icmp_ge (x := v3) (y := (f_X3_usableTotal σ)) (tgt := 104) (pc' := 15) hE dX0_shortenAll_12 (by decide) rfl (fun c1 => ?_) (fun c1 => ?_)
    · rw [if_pos c1] at h
      cases h
      exact jv_forget [false, false, true, false, true, true, true, true] hk
    · rw [if_neg c1] at h
      refine jv_aload_n (x := 32) (pc' := 16) hE dX0_shortenAll_15 rfl 0 rfl rfl ?_
      refine jv_get (v := .ref 1) (pc' := 19) hE dX0_shortenAll_16 rfl lF_X0_18 rfl rfl rfl ?_
      refine jv_iload_n (x := v3) (pc' := 20) hE dX0_shortenAll_19 rfl 3 rfl rfl ?_
      refine jv_callV (pc' := 23) (o := some (.int (f_X3_outEdge σ v3))) (σ' := σ) hE dX0_shortenAll_20 rfl lV_X0_62 (ok_X3_outEdge rfl) rfl rfl rfl (by decide) rfl (Nat.le_of_ble_eq_true rfl) ?_
      show jv_V E 23 [some (.ref 32), some (.int a1), some (.int (jv_b v2)), some (.int v3), none, none, none, none] [.int (f_X3_outEdge σ v3)] σ
      refine jv_istore (x := (f_X3_outEdge σ v3)) (L' := [some (.ref 32), some (.int a1), some (.int (jv_b v2)), some (.int v3), some (.int (f_X3_outEdge σ v3)), none, none, none]) (pc' := 25) hE dX0_shortenAll_23 rfl (by decide) rfl rfl ?_
      refine jv_aload_n (x := 32) (pc' := 26) hE dX0_shortenAll_25 rfl 0 rfl rfl ?_
      refine jv_get (v := .ref 1) (pc' := 29) hE dX0_shortenAll_26 rfl lF_X0_18 rfl rfl rfl ?_
      refine jv_iload (x := (f_X3_outEdge σ v3)) (pc' := 31) hE dX0_shortenAll_29 rfl rfl ?_
      refine jv_callV (pc' := 34) (o := some (.int (f_X3_headOf σ (f_X3_outEdge σ v3)))) (σ' := σ) hE dX0_shortenAll_31 rfl lV_X0_42 (ok_X3_headOf rfl) rfl rfl rfl (by decide) rfl (Nat.le_of_ble_eq_true rfl) ?_
      show jv_V E 34 [some (.ref 32), some (.int a1), some (.int (jv_b v2)), some (.int v3), some (.int (f_X3_outEdge σ v3)), none, none, none] [.int (f_X3_headOf σ (f_X3_outEdge σ v3))] σ
      refine jv_istore (x := (f_X3_headOf σ (f_X3_outEdge σ v3))) (L' := [some (.ref 32), some (.int a1), some (.int (jv_b v2)), some (.int v3), some (.int (f_X3_outEdge σ v3)), some (.int (f_X3_headOf σ (f_X3_outEdge σ v3))), none, none]) (pc' := 36) hE dX0_shortenAll_34 rfl (by decide) rfl rfl ?_
      refine jv_iload (x := (f_X3_headOf σ (f_X3_outEdge σ v3))) (pc' := 38) hE dX0_shortenAll_36 rfl rfl ?_
      refine jv_iload_n (x := a1) (pc' := 39) hE dX0_shortenAll_38 rfl 1 rfl rfl ?_
      obtain ⟨q3, hq3, h⟩ := jv_bd_some h
      have kq3 : jv_V E 58 [some (.ref 32), some (.int a1), some (.int (jv_b v2)), some (.int v3), some (.int (f_X3_outEdge σ v3)), none, none, none] [.int q3] σ := by
        refine jv_istore (x := q3) (L' := [some (.ref 32), some (.int a1), some (.int (jv_b v2)), some (.int v3), some (.int (f_X3_outEdge σ v3)), none, some (.int q3), none]) (pc' := 60) hE dX0_shortenAll_58 rfl (by decide) rfl rfl ?_
        refine jv_aload_n (x := 32) (pc' := 61) hE dX0_shortenAll_60 rfl 0 rfl rfl ?_
        refine jv_get (v := .ref 1) (pc' := 64) hE dX0_shortenAll_61 rfl lF_X0_18 rfl rfl rfl ?_
        refine jv_iload (x := (f_X3_outEdge σ v3)) (pc' := 66) hE dX0_shortenAll_64 rfl rfl ?_
        refine jv_callV (pc' := 69) (o := some (.int (f_X3_lengthOf σ (f_X3_outEdge σ v3)))) (σ' := σ) hE dX0_shortenAll_66 rfl lV_X0_65 (ok_X3_lengthOf rfl) rfl rfl rfl (by decide) rfl (Nat.le_of_ble_eq_true rfl) ?_
        show jv_V E 69 [some (.ref 32), some (.int a1), some (.int (jv_b v2)), some (.int v3), some (.int (f_X3_outEdge σ v3)), none, some (.int q3), none] [.int (f_X3_lengthOf σ (f_X3_outEdge σ v3))] σ
        refine jv_iload (x := q3) (pc' := 71) hE dX0_shortenAll_69 rfl rfl ?_
        refine jv_iadd (x := (f_X3_lengthOf σ (f_X3_outEdge σ v3))) (y := q3) (pc' := 72) hE dX0_shortenAll_71 rfl ?_
        refine jv_istore (x := ((f_X3_lengthOf σ (f_X3_outEdge σ v3)) + q3)) (L' := [some (.ref 32), some (.int a1), some (.int (jv_b v2)), some (.int v3), some (.int (f_X3_outEdge σ v3)), none, some (.int q3), some (.int ((f_X3_lengthOf σ (f_X3_outEdge σ v3)) + q3))]) (pc' := 74) hE dX0_shortenAll_72 rfl (by decide) rfl rfl ?_
        refine jv_iload (x := ((f_X3_lengthOf σ (f_X3_outEdge σ v3)) + q3)) (pc' := 76) hE dX0_shortenAll_74 rfl rfl ?_
        refine jv_aload_n (x := 32) (pc' := 77) hE dX0_shortenAll_76 rfl 0 rfl rfl ?_
        refine jv_iload (x := (f_X3_outEdge σ v3)) (pc' := 79) hE dX0_shortenAll_77 rfl rfl ?_
        refine jv_callV (pc' := 82) (o := some (.int (f_X0_lengthFrom σ (f_X3_outEdge σ v3)))) (σ' := σ) hE dX0_shortenAll_79 rfl lV_X0_34 (ok_X0_lengthFrom rfl) rfl rfl rfl (by decide) rfl (Nat.le_of_ble_eq_true rfl) ?_
        show jv_V E 82 [some (.ref 32), some (.int a1), some (.int (jv_b v2)), some (.int v3), some (.int (f_X3_outEdge σ v3)), none, some (.int q3), some (.int ((f_X3_lengthOf σ (f_X3_outEdge σ v3)) + q3))] [.int (f_X0_lengthFrom σ (f_X3_outEdge σ v3)), .int ((f_X3_lengthOf σ (f_X3_outEdge σ v3)) + q3)] σ
        obtain ⟨q6, hq6, h⟩ := jv_lt_eq h
        have kq6 : jv_V E 98 [some (.ref 32), some (.int a1), some (.int (jv_b q6.1)), some (.int v3), none, none, none, none] [] q6.2 := by
          refine jv_iinc (x := v3) (v := (v3 + (1 : Int32))) (L' := [some (.ref 32), some (.int a1), some (.int (jv_b q6.1)), some (.int (v3 + (1 : Int32))), none, none, none, none]) (pc' := 101) hE dX0_shortenAll_98 rfl rfl rfl (by decide) rfl rfl ?_
          refine jv_goto (tgt := 4) hE dX0_shortenAll_101 (by decide) ?_
          exact jv_forget [true, true, true, true, true, true, true, true] (ih q6.1 (v3 + (1 : Int32)) q6.2 _ h hk)
        refine jv_icmp_ge (x := ((f_X3_lengthOf σ (f_X3_outEdge σ v3)) + q3)) (y := (f_X0_lengthFrom σ (f_X3_outEdge σ v3))) (tgt := 98) (pc' := 85) hE dX0_shortenAll_82 (by decide) rfl (fun c5 => ?_) (fun c5 => ?_)
        · rw [if_pos c5] at hq6
          cases hq6
          exact jv_forget [true, true, true, true, false, true, false, false] kq6
        · rw [if_neg c5] at hq6
          refine jv_aload_n (x := 32) (pc' := 86) hE dX0_shortenAll_85 rfl 0 rfl rfl ?_
          refine jv_get (v := .ref 33) (pc' := 89) hE dX0_shortenAll_86 rfl lF_X0_9 rfl rfl rfl ?_
          refine jv_iload (x := (f_X3_outEdge σ v3)) (pc' := 91) hE dX0_shortenAll_89 rfl rfl ?_
          refine jv_iload (x := ((f_X3_lengthOf σ (f_X3_outEdge σ v3)) + q3)) (pc' := 93) hE dX0_shortenAll_91 rfl rfl ?_
          refine jv_callN (pc' := 96) (o := none) (σ' := (jv_wr σ 33 24 (f_X3_outEdge σ v3) ((f_X3_lengthOf σ (f_X3_outEdge σ v3)) + q3))) hE dX0_shortenAll_93 rfl lN_X0_38 (ok_X7_put (n := 24) (by decide) rfl rfl) rfl (by decide) rfl (Nat.le_of_ble_eq_true rfl) ?_
          show jv_V E 96 [some (.ref 32), some (.int a1), some (.int (jv_b v2)), some (.int v3), some (.int (f_X3_outEdge σ v3)), none, some (.int q3), some (.int ((f_X3_lengthOf σ (f_X3_outEdge σ v3)) + q3))] [] (jv_wr σ 33 24 (f_X3_outEdge σ v3) ((f_X3_lengthOf σ (f_X3_outEdge σ v3)) + q3))
          refine jv_iconst (v := (1 : Int32)) (pc' := 97) hE dX0_shortenAll_96 rfl (by decide) ?_
          refine jv_istore_n (x := (1 : Int32)) (L' := [some (.ref 32), some (.int a1), some (.int (1 : Int32)), some (.int v3), some (.int (f_X3_outEdge σ v3)), none, some (.int q3), some (.int ((f_X3_lengthOf σ (f_X3_outEdge σ v3)) + q3))]) (pc' := 98) hE dX0_shortenAll_97 rfl 2 rfl (by decide) rfl rfl ?_
          cases hq6
          exact jv_forget [true, true, true, true, false, true, false, false] kq6
      refine jv_icmp_ne (x := (f_X3_headOf σ (f_X3_outEdge σ v3))) (y := a1) (tgt := 46) (pc' := 42) hE dX0_shortenAll_39 (by decide) rfl (fun c2 => ?_) (fun c2 => ?_)
      · rw [if_neg c2] at hq3
        refine jv_aload_n (x := 32) (pc' := 47) hE dX0_shortenAll_46 rfl 0 rfl rfl ?_
        refine jv_aload_n (x := 32) (pc' := 48) hE dX0_shortenAll_47 rfl 0 rfl rfl ?_
        refine jv_iload (x := (f_X3_outEdge σ v3)) (pc' := 50) hE dX0_shortenAll_48 rfl rfl ?_
        refine jv_iload (x := (f_X3_headOf σ (f_X3_outEdge σ v3))) (pc' := 52) hE dX0_shortenAll_50 rfl rfl ?_
        obtain ⟨q4, hq4, hq3⟩ := jv_bd_some hq3
        refine jv_callV (pc' := 55) (o := some (.int q4)) (σ' := σ) hE dX0_shortenAll_52 rfl lV_X0_30 (ok_X0_bestAfter hq4) rfl rfl rfl (by decide) rfl (Nat.le_of_ble_eq_true rfl) ?_
        show jv_V E 55 [some (.ref 32), some (.int a1), some (.int (jv_b v2)), some (.int v3), some (.int (f_X3_outEdge σ v3)), some (.int (f_X3_headOf σ (f_X3_outEdge σ v3))), none, none] [.int q4, .ref 32] σ
        refine jv_callV (pc' := 58) (o := some (.int (f_X0_lengthFrom σ q4))) (σ' := σ) hE dX0_shortenAll_55 rfl lV_X0_34 (ok_X0_lengthFrom rfl) rfl rfl rfl (by decide) rfl (Nat.le_of_ble_eq_true rfl) ?_
        show jv_V E 58 [some (.ref 32), some (.int a1), some (.int (jv_b v2)), some (.int v3), some (.int (f_X3_outEdge σ v3)), some (.int (f_X3_headOf σ (f_X3_outEdge σ v3))), none, none] [.int (f_X0_lengthFrom σ q4)] σ
        cases hq3
        exact jv_forget [true, true, true, true, true, false, true, true] kq3
      · rw [if_pos c2] at hq3
        refine jv_iconst (v := (0 : Int32)) (pc' := 43) hE dX0_shortenAll_42 rfl (by decide) ?_
        refine jv_goto (tgt := 58) hE dX0_shortenAll_43 (by decide) ?_
        cases hq3
        exact jv_forget [true, true, true, true, true, false, true, true] kq3
set_option maxRecDepth 100000 in
set_option maxHeartbeats 4000000 in
theorem ok_X0_shortenAll {G : jv_G} {l : Launch} {σ : jv_S} {p1 : Int32} {r : Bool × jv_S} (h : f_X0_shortenAll σ p1 = some r) : jv_Cn G l 4 M_X0_shortenAll [.ref 32, .int p1] σ (some (.int (jv_b r.1))) r.2 := by
  refine jv_of (L0 := [some (.ref 32), some (.int p1), none, none, none, none, none, none]) (by decide +kernel) (Nat.le_of_ble_eq_true rfl) rfl (jv_okZ _) (fun E e1 e2 hE hret => ?_)
  unfold f_X0_shortenAll at h
  refine jv_iconst (v := (0 : Int32)) (pc' := 1) hE dX0_shortenAll_0 rfl (by decide) ?_
  refine jv_istore_n (x := (0 : Int32)) (L' := [some (.ref 32), some (.int p1), some (.int (0 : Int32)), none, none, none, none, none]) (pc' := 2) hE dX0_shortenAll_1 rfl 2 rfl (by decide) rfl rfl ?_
  refine jv_iconst (v := (0 : Int32)) (pc' := 3) hE dX0_shortenAll_2 rfl (by decide) ?_
  refine jv_istore_n (x := (0 : Int32)) (L' := [some (.ref 32), some (.int p1), some (.int (0 : Int32)), some (.int (0 : Int32)), none, none, none, none]) (pc' := 4) hE dX0_shortenAll_3 rfl 3 rfl (by decide) rfl rfl ?_
  obtain ⟨q7, hq7, h⟩ := jv_bd_some h
  refine jv_forget [true, true, true, true, true, true, true, true] (lp_X0_shortenAll_4 hE jv_fuel false (0 : Int32) σ _ hq7 ?_)
  refine jv_iload_n (x := (jv_b q7.1)) (pc' := 105) hE dX0_shortenAll_104 rfl 2 rfl rfl ?_
  cases h
  exact hret _ _ dX0_shortenAll_105
noncomputable def f_X0_measureTo_lp13 (a1 : Int32) : Nat → Bool → Int32 → jv_S → Option (Bool × Int32 × jv_S)
  | 0, _, _, _ => none
  | n + 1, v2, v3, σ => if (24 : Int32) ≤ v3 then (some (v2, v3, σ)) else (if v2 = true then (jv_bd (f_X0_shortenAll σ a1) (fun q3 => f_X0_measureTo_lp13 a1 n q3.1 (v3 + (1 : Int32)) q3.2)) else (some (v2, v3, σ)))
noncomputable def f_X0_measureTo (σ : jv_S) (p1 : Int32) : Option (jv_S) := jv_bd (f_X0_measureTo_lp13 p1 jv_fuel true (0 : Int32) (jv_fl σ 33 24 (1000000000 : Int32))) (fun q4 => some q4.2.2)
set_option maxRecDepth 100000 in
set_option maxHeartbeats 4000000 in
theorem lp_X0_measureTo_13 {a1 : Int32} {E : jv_E} (hE : jv_Cx E RX0 cX0_measureTo 4 5) : ∀ (n : Nat) (v2 : Bool) (v3 : Int32) (σ : jv_S) (q : Bool × Int32 × jv_S), f_X0_measureTo_lp13 a1 n v2 v3 σ = some q → (jv_V E 35 [none, none, none, none] [] q.2.2) → jv_V E 13 [some (.ref 32), some (.int a1), some (.int (jv_b v2)), some (.int v3)] [] σ := by
  intro n
  induction n with
  | zero =>
    intro v2 v3 σ q h
    rw [f_X0_measureTo_lp13] at h
    cases h
  | succ n ih =>
    intro v2 v3 σ q h hk
    rw [f_X0_measureTo_lp13] at h
    refine jv_iload_n (x := v3) (pc' := 14) hE dX0_measureTo_13 rfl 3 rfl rfl ?_
    refine jv_bipush (v := (24 : Int32)) (pc' := 16) hE dX0_measureTo_14 rfl (by decide) ?_
    refine jv_icmp_ge (x := v3) (y := (24 : Int32)) (tgt := 35) (pc' := 19) hE dX0_measureTo_16 (by decide) rfl (fun c1 => ?_) (fun c1 => ?_)
    · rw [if_pos c1] at h
      cases h
      exact jv_forget [false, false, false, false] hk
    · rw [if_neg c1] at h
      refine jv_iload_n (x := (jv_b v2)) (pc' := 20) hE dX0_measureTo_19 rfl 2 rfl rfl ?_
      refine jv_if_eq (x := (jv_b v2)) (tgt := 35) (pc' := 23) hE dX0_measureTo_20 (by decide) rfl (fun c2 => ?_) (fun c2 => ?_)
      · have c2 := jv_b0 c2
        rw [if_neg c2] at h
        cases h
        exact jv_forget [false, false, false, false] hk
      · have c2 := jv_b1 c2
        rw [if_pos c2] at h
        refine jv_aload_n (x := 32) (pc' := 24) hE dX0_measureTo_23 rfl 0 rfl rfl ?_
        refine jv_iload_n (x := a1) (pc' := 25) hE dX0_measureTo_24 rfl 1 rfl rfl ?_
        obtain ⟨q3, hq3, h⟩ := jv_bd_some h
        refine jv_callV (pc' := 28) (o := some (.int (jv_b q3.1))) (σ' := q3.2) hE dX0_measureTo_25 rfl lV_X0_54 (ok_X0_shortenAll hq3) rfl rfl rfl (by decide) rfl (Nat.le_of_ble_eq_true rfl) ?_
        show jv_V E 28 [some (.ref 32), some (.int a1), some (.int (jv_b v2)), some (.int v3)] [.int (jv_b q3.1)] q3.2
        refine jv_istore_n (x := (jv_b q3.1)) (L' := [some (.ref 32), some (.int a1), some (.int (jv_b q3.1)), some (.int v3)]) (pc' := 29) hE dX0_measureTo_28 rfl 2 rfl (by decide) rfl rfl ?_
        refine jv_iinc (x := v3) (v := (v3 + (1 : Int32))) (L' := [some (.ref 32), some (.int a1), some (.int (jv_b q3.1)), some (.int (v3 + (1 : Int32)))]) (pc' := 32) hE dX0_measureTo_29 rfl rfl rfl (by decide) rfl rfl ?_
        refine jv_goto (tgt := 13) hE dX0_measureTo_32 (by decide) ?_
        exact jv_forget [true, true, true, true] (ih q3.1 (v3 + (1 : Int32)) q3.2 _ h hk)
set_option maxRecDepth 100000 in
set_option maxHeartbeats 4000000 in
theorem ok_X0_measureTo {G : jv_G} {l : Launch} {σ : jv_S} {p1 : Int32} {r : jv_S} (h : f_X0_measureTo σ p1 = some r) : jv_Cn G l 5 M_X0_measureTo [.ref 32, .int p1] σ (none) r := by
  refine jv_of (L0 := [some (.ref 32), some (.int p1), none, none]) (by decide +kernel) (Nat.le_of_ble_eq_true rfl) rfl jv_okV (fun E e1 e2 hE hret => ?_)
  unfold f_X0_measureTo at h
  refine jv_aload_n (x := 32) (pc' := 1) hE dX0_measureTo_0 rfl 0 rfl rfl ?_
  refine jv_get (v := .ref 33) (pc' := 4) hE dX0_measureTo_1 rfl lF_X0_9 rfl rfl rfl ?_
  refine jv_ldc (v := (1000000000 : Int32)) (pc' := 6) hE dX0_measureTo_4 rfl lC_X0_47 ?_
  refine jv_callS (pc' := 9) (o := none) (σ' := (jv_fl σ 33 24 (1000000000 : Int32))) hE dX0_measureTo_6 rfl lS_X0_48 (ok_J7_fill_53178 (n := 24) (by decide) rfl rfl) rfl (by decide) rfl (Nat.le_of_ble_eq_true rfl) ?_
  show jv_V E 9 [some (.ref 32), some (.int p1), none, none] [] (jv_fl σ 33 24 (1000000000 : Int32))
  refine jv_iconst (v := (1 : Int32)) (pc' := 10) hE dX0_measureTo_9 rfl (by decide) ?_
  refine jv_istore_n (x := (1 : Int32)) (L' := [some (.ref 32), some (.int p1), some (.int (1 : Int32)), none]) (pc' := 11) hE dX0_measureTo_10 rfl 2 rfl (by decide) rfl rfl ?_
  refine jv_iconst (v := (0 : Int32)) (pc' := 12) hE dX0_measureTo_11 rfl (by decide) ?_
  refine jv_istore_n (x := (0 : Int32)) (L' := [some (.ref 32), some (.int p1), some (.int (1 : Int32)), some (.int (0 : Int32))]) (pc' := 13) hE dX0_measureTo_12 rfl 3 rfl (by decide) rfl rfl ?_
  obtain ⟨q4, hq4, h⟩ := jv_bd_some h
  refine jv_forget [true, true, true, true] (lp_X0_measureTo_13 hE jv_fuel true (0 : Int32) (jv_fl σ 33 24 (1000000000 : Int32)) _ hq4 ?_)
  cases h
  exact hret _ _ dX0_measureTo_35
noncomputable def f_X0_find_lp31 (a2 : Int32) (a4 : Int32) : Nat → Int32 → jv_S → Option (Int32 × jv_S)
  | 0, _, _ => none
  | n + 1, v3, σ => if v3 = (-1 : Int32) then (some (v3, σ)) else (if (24 : Int32) ≤ (σ.1 32 3) then (some (v3, σ)) else (jv_bd (if (f_X3_headOf (jv_si (jv_wr σ 34 24 (σ.1 32 3) v3) 32 3 (((jv_wr σ 34 24 (σ.1 32 3) v3).1 32 3) + (1 : Int32))) v3) = a2 then (some (-1 : Int32)) else (jv_bd (f_X0_bestAfter (jv_si (jv_wr σ 34 24 (σ.1 32 3) v3) 32 3 (((jv_wr σ 34 24 (σ.1 32 3) v3).1 32 3) + (1 : Int32))) v3 (f_X3_headOf (jv_si (jv_wr σ 34 24 (σ.1 32 3) v3) 32 3 (((jv_wr σ 34 24 (σ.1 32 3) v3).1 32 3) + (1 : Int32))) v3)) (fun q8 => some q8))) (fun q7 => f_X0_find_lp31 a2 a4 n q7 (jv_si (jv_wr σ 34 24 (σ.1 32 3) v3) 32 3 (((jv_wr σ 34 24 (σ.1 32 3) v3).1 32 3) + (1 : Int32))))))
noncomputable def f_X0_find (σ : jv_S) (p1 : Int32) (p2 : Int32) : Option (Int32 × jv_S) := if p1 = p2 then (some ((0 : Int32), (jv_si σ 32 3 (0 : Int32)))) else (jv_bd (f_X0_measureTo (jv_si σ 32 3 (0 : Int32)) p2) (fun q2 => jv_bd (f_X0_bestAfter q2 (-1 : Int32) p1) (fun q3 => jv_bd (f_X0_find_lp31 p2 (f_X0_lengthFrom q2 q3) jv_fuel q3 q2) (fun q9 => some ((f_X0_lengthFrom q2 q3), q9.2)))))
set_option maxRecDepth 100000 in
set_option maxHeartbeats 4000000 in
theorem lp_X0_find_31 {a2 : Int32} {a4 : Int32} {E : jv_E} (hE : jv_Cx E RX0 cX0_find 6 6) : ∀ (n : Nat) (v3 : Int32) (σ : jv_S) (q : Int32 × jv_S), f_X0_find_lp31 a2 a4 n v3 σ = some q → (jv_V E 98 [none, none, none, none, some (.int a4), none] [] q.2) → jv_V E 31 [some (.ref 32), none, some (.int a2), some (.int v3), some (.int a4), none] [] σ := by
  intro n
  induction n with
  | zero =>
    intro v3 σ q h
    rw [f_X0_find_lp31] at h
    cases h
  | succ n ih =>
    intro v3 σ q h hk
    rw [f_X0_find_lp31] at h
    refine jv_iload_n (x := v3) (pc' := 32) hE dX0_find_31 rfl 3 rfl rfl ?_
    refine jv_iconst (v := (-1 : Int32)) (pc' := 33) hE dX0_find_32 rfl (by decide) ?_
    refine jv_icmp_eq (x := v3) (y := (-1 : Int32)) (tgt := 98) (pc' := 36) hE dX0_find_33 (by decide) rfl (fun c4 => ?_) (fun c4 => ?_)
    · rw [if_pos c4] at h
      cases h
      exact jv_forget [false, true, false, false, true, true] hk
    · rw [if_neg c4] at h
      refine jv_aload_n (x := 32) (pc' := 37) hE dX0_find_36 rfl 0 rfl rfl ?_
      refine jv_get (v := .int (σ.1 32 3)) (pc' := 40) hE dX0_find_37 rfl lF_X0_22 rfl rfl rfl ?_
      refine jv_bipush (v := (24 : Int32)) (pc' := 42) hE dX0_find_40 rfl (by decide) ?_
      refine jv_icmp_ge (x := (σ.1 32 3)) (y := (24 : Int32)) (tgt := 98) (pc' := 45) hE dX0_find_42 (by decide) rfl (fun c5 => ?_) (fun c5 => ?_)
      · rw [if_pos c5] at h
        cases h
        exact jv_forget [false, true, false, false, true, true] hk
      · rw [if_neg c5] at h
        refine jv_aload_n (x := 32) (pc' := 46) hE dX0_find_45 rfl 0 rfl rfl ?_
        refine jv_get (v := .ref 34) (pc' := 49) hE dX0_find_46 rfl lF_X0_15 rfl rfl rfl ?_
        refine jv_aload_n (x := 32) (pc' := 50) hE dX0_find_49 rfl 0 rfl rfl ?_
        refine jv_get (v := .int (σ.1 32 3)) (pc' := 53) hE dX0_find_50 rfl lF_X0_22 rfl rfl rfl ?_
        refine jv_iload_n (x := v3) (pc' := 54) hE dX0_find_53 rfl 3 rfl rfl ?_
        refine jv_callN (pc' := 57) (o := none) (σ' := (jv_wr σ 34 24 (σ.1 32 3) v3)) hE dX0_find_54 rfl lN_X0_38 (ok_X7_put (n := 24) (by decide) rfl rfl) rfl (by decide) rfl (Nat.le_of_ble_eq_true rfl) ?_
        show jv_V E 57 [some (.ref 32), none, some (.int a2), some (.int v3), some (.int a4), none] [] (jv_wr σ 34 24 (σ.1 32 3) v3)
        refine jv_aload_n (x := 32) (pc' := 58) hE dX0_find_57 rfl 0 rfl rfl ?_
        refine jv_dup (pc' := 59) hE dX0_find_58 rfl rfl ?_
        refine jv_get (v := .int ((jv_wr σ 34 24 (σ.1 32 3) v3).1 32 3)) (pc' := 62) hE dX0_find_59 rfl lF_X0_22 rfl rfl rfl ?_
        refine jv_iconst (v := (1 : Int32)) (pc' := 63) hE dX0_find_62 rfl (by decide) ?_
        refine jv_iadd (x := ((jv_wr σ 34 24 (σ.1 32 3) v3).1 32 3)) (y := (1 : Int32)) (pc' := 64) hE dX0_find_63 rfl ?_
        refine jv_puti (x := (((jv_wr σ 34 24 (σ.1 32 3) v3).1 32 3) + (1 : Int32))) (pc' := 67) hE dX0_find_64 rfl lP_X0_22 rfl rfl rfl rfl ?_
        refine jv_aload_n (x := 32) (pc' := 68) hE dX0_find_67 rfl 0 rfl rfl ?_
        refine jv_get (v := .ref 1) (pc' := 71) hE dX0_find_68 rfl lF_X0_18 rfl rfl rfl ?_
        refine jv_iload_n (x := v3) (pc' := 72) hE dX0_find_71 rfl 3 rfl rfl ?_
        refine jv_callV (pc' := 75) (o := some (.int (f_X3_headOf (jv_si (jv_wr σ 34 24 (σ.1 32 3) v3) 32 3 (((jv_wr σ 34 24 (σ.1 32 3) v3).1 32 3) + (1 : Int32))) v3))) (σ' := (jv_si (jv_wr σ 34 24 (σ.1 32 3) v3) 32 3 (((jv_wr σ 34 24 (σ.1 32 3) v3).1 32 3) + (1 : Int32)))) hE dX0_find_72 rfl lV_X0_42 (ok_X3_headOf rfl) rfl rfl rfl (by decide) rfl (Nat.le_of_ble_eq_true rfl) ?_
        show jv_V E 75 [some (.ref 32), none, some (.int a2), some (.int v3), some (.int a4), none] [.int (f_X3_headOf (jv_si (jv_wr σ 34 24 (σ.1 32 3) v3) 32 3 (((jv_wr σ 34 24 (σ.1 32 3) v3).1 32 3) + (1 : Int32))) v3)] (jv_si (jv_wr σ 34 24 (σ.1 32 3) v3) 32 3 (((jv_wr σ 34 24 (σ.1 32 3) v3).1 32 3) + (1 : Int32)))
        refine jv_istore (x := (f_X3_headOf (jv_si (jv_wr σ 34 24 (σ.1 32 3) v3) 32 3 (((jv_wr σ 34 24 (σ.1 32 3) v3).1 32 3) + (1 : Int32))) v3)) (L' := [some (.ref 32), none, some (.int a2), some (.int v3), some (.int a4), some (.int (f_X3_headOf (jv_si (jv_wr σ 34 24 (σ.1 32 3) v3) 32 3 (((jv_wr σ 34 24 (σ.1 32 3) v3).1 32 3) + (1 : Int32))) v3))]) (pc' := 77) hE dX0_find_75 rfl (by decide) rfl rfl ?_
        refine jv_iload (x := (f_X3_headOf (jv_si (jv_wr σ 34 24 (σ.1 32 3) v3) 32 3 (((jv_wr σ 34 24 (σ.1 32 3) v3).1 32 3) + (1 : Int32))) v3)) (pc' := 79) hE dX0_find_77 rfl rfl ?_
        refine jv_iload_n (x := a2) (pc' := 80) hE dX0_find_79 rfl 2 rfl rfl ?_
        obtain ⟨q7, hq7, h⟩ := jv_bd_some h
        have kq7 : jv_V E 94 [some (.ref 32), none, some (.int a2), none, some (.int a4), none] [.int q7] (jv_si (jv_wr σ 34 24 (σ.1 32 3) v3) 32 3 (((jv_wr σ 34 24 (σ.1 32 3) v3).1 32 3) + (1 : Int32))) := by
          refine jv_istore_n (x := q7) (L' := [some (.ref 32), none, some (.int a2), some (.int q7), some (.int a4), none]) (pc' := 95) hE dX0_find_94 rfl 3 rfl (by decide) rfl rfl ?_
          refine jv_goto (tgt := 31) hE dX0_find_95 (by decide) ?_
          exact jv_forget [true, true, true, true, true, true] (ih q7 (jv_si (jv_wr σ 34 24 (σ.1 32 3) v3) 32 3 (((jv_wr σ 34 24 (σ.1 32 3) v3).1 32 3) + (1 : Int32))) _ h hk)
        refine jv_icmp_ne (x := (f_X3_headOf (jv_si (jv_wr σ 34 24 (σ.1 32 3) v3) 32 3 (((jv_wr σ 34 24 (σ.1 32 3) v3).1 32 3) + (1 : Int32))) v3)) (y := a2) (tgt := 87) (pc' := 83) hE dX0_find_80 (by decide) rfl (fun c6 => ?_) (fun c6 => ?_)
        · rw [if_neg c6] at hq7
          refine jv_aload_n (x := 32) (pc' := 88) hE dX0_find_87 rfl 0 rfl rfl ?_
          refine jv_iload_n (x := v3) (pc' := 89) hE dX0_find_88 rfl 3 rfl rfl ?_
          refine jv_iload (x := (f_X3_headOf (jv_si (jv_wr σ 34 24 (σ.1 32 3) v3) 32 3 (((jv_wr σ 34 24 (σ.1 32 3) v3).1 32 3) + (1 : Int32))) v3)) (pc' := 91) hE dX0_find_89 rfl rfl ?_
          obtain ⟨q8, hq8, hq7⟩ := jv_bd_some hq7
          refine jv_callV (pc' := 94) (o := some (.int q8)) (σ' := (jv_si (jv_wr σ 34 24 (σ.1 32 3) v3) 32 3 (((jv_wr σ 34 24 (σ.1 32 3) v3).1 32 3) + (1 : Int32)))) hE dX0_find_91 rfl lV_X0_30 (ok_X0_bestAfter hq8) rfl rfl rfl (by decide) rfl (Nat.le_of_ble_eq_true rfl) ?_
          show jv_V E 94 [some (.ref 32), none, some (.int a2), some (.int v3), some (.int a4), some (.int (f_X3_headOf (jv_si (jv_wr σ 34 24 (σ.1 32 3) v3) 32 3 (((jv_wr σ 34 24 (σ.1 32 3) v3).1 32 3) + (1 : Int32))) v3))] [.int q8] (jv_si (jv_wr σ 34 24 (σ.1 32 3) v3) 32 3 (((jv_wr σ 34 24 (σ.1 32 3) v3).1 32 3) + (1 : Int32)))
          cases hq7
          exact jv_forget [true, true, true, false, true, false] kq7
        · rw [if_pos c6] at hq7
          refine jv_iconst (v := (-1 : Int32)) (pc' := 84) hE dX0_find_83 rfl (by decide) ?_
          refine jv_goto (tgt := 94) hE dX0_find_84 (by decide) ?_
          cases hq7
          exact jv_forget [true, true, true, false, true, false] kq7
set_option maxRecDepth 100000 in
set_option maxHeartbeats 4000000 in
theorem ok_X0_find {G : jv_G} {l : Launch} {σ : jv_S} {p1 : Int32} {p2 : Int32} {r : Int32 × jv_S} (h : f_X0_find σ p1 p2 = some r) : jv_Cn G l 6 M_X0_find [.ref 32, .int p1, .int p2] σ (some (.int r.1)) r.2 := by
  refine jv_of (L0 := [some (.ref 32), some (.int p1), some (.int p2), none, none, none]) (by decide +kernel) (Nat.le_of_ble_eq_true rfl) rfl (jv_okI _) (fun E e1 e2 hE hret => ?_)
  unfold f_X0_find at h
  refine jv_aload_n (x := 32) (pc' := 1) hE dX0_find_0 rfl 0 rfl rfl ?_
  refine jv_iconst (v := (0 : Int32)) (pc' := 2) hE dX0_find_1 rfl (by decide) ?_
  refine jv_puti (x := (0 : Int32)) (pc' := 5) hE dX0_find_2 rfl lP_X0_22 rfl rfl rfl rfl ?_
  refine jv_iload_n (x := p1) (pc' := 6) hE dX0_find_5 rfl 1 rfl rfl ?_
  refine jv_iload_n (x := p2) (pc' := 7) hE dX0_find_6 rfl 2 rfl rfl ?_
  refine jv_icmp_ne (x := p1) (y := p2) (tgt := 12) (pc' := 10) hE dX0_find_7 (by decide) rfl (fun c1 => ?_) (fun c1 => ?_)
  · rw [if_neg c1] at h
    refine jv_aload_n (x := 32) (pc' := 13) hE dX0_find_12 rfl 0 rfl rfl ?_
    refine jv_iload_n (x := p2) (pc' := 14) hE dX0_find_13 rfl 2 rfl rfl ?_
    obtain ⟨q2, hq2, h⟩ := jv_bd_some h
    refine jv_callV (pc' := 17) (o := none) (σ' := q2) hE dX0_find_14 rfl lV_X0_26 (ok_X0_measureTo hq2) rfl rfl rfl (by decide) rfl (Nat.le_of_ble_eq_true rfl) ?_
    show jv_V E 17 [some (.ref 32), some (.int p1), some (.int p2), none, none, none] [] q2
    refine jv_aload_n (x := 32) (pc' := 18) hE dX0_find_17 rfl 0 rfl rfl ?_
    refine jv_iconst (v := (-1 : Int32)) (pc' := 19) hE dX0_find_18 rfl (by decide) ?_
    refine jv_iload_n (x := p1) (pc' := 20) hE dX0_find_19 rfl 1 rfl rfl ?_
    obtain ⟨q3, hq3, h⟩ := jv_bd_some h
    refine jv_callV (pc' := 23) (o := some (.int q3)) (σ' := q2) hE dX0_find_20 rfl lV_X0_30 (ok_X0_bestAfter hq3) rfl rfl rfl (by decide) rfl (Nat.le_of_ble_eq_true rfl) ?_
    show jv_V E 23 [some (.ref 32), some (.int p1), some (.int p2), none, none, none] [.int q3] q2
    refine jv_istore_n (x := q3) (L' := [some (.ref 32), some (.int p1), some (.int p2), some (.int q3), none, none]) (pc' := 24) hE dX0_find_23 rfl 3 rfl (by decide) rfl rfl ?_
    refine jv_aload_n (x := 32) (pc' := 25) hE dX0_find_24 rfl 0 rfl rfl ?_
    refine jv_iload_n (x := q3) (pc' := 26) hE dX0_find_25 rfl 3 rfl rfl ?_
    refine jv_callV (pc' := 29) (o := some (.int (f_X0_lengthFrom q2 q3))) (σ' := q2) hE dX0_find_26 rfl lV_X0_34 (ok_X0_lengthFrom rfl) rfl rfl rfl (by decide) rfl (Nat.le_of_ble_eq_true rfl) ?_
    show jv_V E 29 [some (.ref 32), some (.int p1), some (.int p2), some (.int q3), none, none] [.int (f_X0_lengthFrom q2 q3)] q2
    refine jv_istore (x := (f_X0_lengthFrom q2 q3)) (L' := [some (.ref 32), some (.int p1), some (.int p2), some (.int q3), some (.int (f_X0_lengthFrom q2 q3)), none]) (pc' := 31) hE dX0_find_29 rfl (by decide) rfl rfl ?_
    obtain ⟨q9, hq9, h⟩ := jv_bd_some h
    refine jv_forget [true, false, true, true, true, true] (lp_X0_find_31 hE jv_fuel q3 q2 _ hq9 ?_)
    refine jv_iload (x := (f_X0_lengthFrom q2 q3)) (pc' := 100) hE dX0_find_98 rfl rfl ?_
    cases h
    exact hret _ _ dX0_find_100
  · rw [if_pos c1] at h
    refine jv_iconst (v := (0 : Int32)) (pc' := 11) hE dX0_find_10 rfl (by decide) ?_
    cases h
    exact hret _ _ dX0_find_11
noncomputable def f_X0_foundSize (σ : jv_S) : Int32 := (σ.1 32 3)
set_option maxRecDepth 100000 in
set_option maxHeartbeats 4000000 in
theorem ok_X0_foundSize {G : jv_G} {l : Launch} {σ : jv_S} {r : Int32} (h : f_X0_foundSize σ = r) : jv_Cn G l 1 M_X0_foundSize [.ref 32] σ (some (.int r)) σ := by
  refine jv_of (L0 := [some (.ref 32)]) (by decide +kernel) (Nat.le_of_ble_eq_true rfl) rfl (jv_okI _) (fun E e1 e2 hE hret => ?_)
  unfold f_X0_foundSize at h
  refine jv_aload_n (x := 32) (pc' := 1) hE dX0_foundSize_0 rfl 0 rfl rfl ?_
  refine jv_get (v := .int (σ.1 32 3)) (pc' := 4) hE dX0_foundSize_1 rfl lF_X0_22 rfl rfl rfl ?_
  cases h
  exact hret _ _ dX0_foundSize_4
noncomputable def f_X0_foundEdge (σ : jv_S) (p1 : Int32) : Int32 := jv_lt (if p1 < 0 then ((-1 : Int32)) else (if (σ.1 32 3) ≤ p1 then ((-1 : Int32)) else ((jv_rd (σ.1 34) 24 0 p1)))) (fun q2 => q2)
set_option maxRecDepth 100000 in
set_option maxHeartbeats 4000000 in
theorem ok_X0_foundEdge {G : jv_G} {l : Launch} {σ : jv_S} {p1 : Int32} {r : Int32} (h : f_X0_foundEdge σ p1 = r) : jv_Cn G l 2 M_X0_foundEdge [.ref 32, .int p1] σ (some (.int r)) σ := by
  refine jv_of (L0 := [some (.ref 32), some (.int p1)]) (by decide +kernel) (Nat.le_of_ble_eq_true rfl) rfl (jv_okI _) (fun E e1 e2 hE hret => ?_)
  unfold f_X0_foundEdge at h
  refine jv_iload_n (x := p1) (pc' := 1) hE dX0_foundEdge_0 rfl 1 rfl rfl ?_
  obtain ⟨q2, hq2, h⟩ := jv_lt_eq h
  have kq2 : jv_V E 24 [none, none] [.int q2] σ := by
    cases h
    exact hret _ _ dX0_foundEdge_24
  refine jv_if_lt (x := p1) (tgt := 23) (pc' := 4) hE dX0_foundEdge_1 (by decide) rfl (fun c1 => ?_) (fun c1 => ?_)
  · rw [if_pos c1] at hq2
    refine jv_iconst (v := (-1 : Int32)) (pc' := 24) hE dX0_foundEdge_23 rfl (by decide) ?_
    cases hq2
    exact jv_forget [false, false] kq2
  · rw [if_neg c1] at hq2
    refine jv_iload_n (x := p1) (pc' := 5) hE dX0_foundEdge_4 rfl 1 rfl rfl ?_
    refine jv_aload_n (x := 32) (pc' := 6) hE dX0_foundEdge_5 rfl 0 rfl rfl ?_
    refine jv_get (v := .int (σ.1 32 3)) (pc' := 9) hE dX0_foundEdge_6 rfl lF_X0_22 rfl rfl rfl ?_
    refine jv_icmp_ge (x := p1) (y := (σ.1 32 3)) (tgt := 23) (pc' := 12) hE dX0_foundEdge_9 (by decide) rfl (fun c3 => ?_) (fun c3 => ?_)
    · rw [if_pos c3] at hq2
      refine jv_iconst (v := (-1 : Int32)) (pc' := 24) hE dX0_foundEdge_23 rfl (by decide) ?_
      cases hq2
      exact jv_forget [false, false] kq2
    · rw [if_neg c3] at hq2
      refine jv_aload_n (x := 32) (pc' := 13) hE dX0_foundEdge_12 rfl 0 rfl rfl ?_
      refine jv_get (v := .ref 34) (pc' := 16) hE dX0_foundEdge_13 rfl lF_X0_15 rfl rfl rfl ?_
      refine jv_iload_n (x := p1) (pc' := 17) hE dX0_foundEdge_16 rfl 1 rfl rfl ?_
      refine jv_callN (pc' := 20) (o := some (.int (jv_rd (σ.1 34) 24 0 p1))) (σ' := σ) hE dX0_foundEdge_17 rfl lN_X0_68 (ok_X7_at (n := 24) (by decide) rfl rfl) rfl (by decide) rfl (Nat.le_of_ble_eq_true rfl) ?_
      show jv_V E 20 [some (.ref 32), some (.int p1)] [.int (jv_rd (σ.1 34) 24 0 p1)] σ
      refine jv_goto (tgt := 24) hE dX0_foundEdge_20 (by decide) ?_
      cases hq2
      exact jv_forget [false, false] kq2
end
section
noncomputable def f_X6_entry (σ : jv_S) (p1 : Int32) (p2 : Int32) : Int32 := ((p1 * (50 : Int32)) + p2)
set_option maxRecDepth 100000 in
set_option maxHeartbeats 4000000 in
theorem ok_X6_entry {G : jv_G} {l : Launch} {σ : jv_S} {p1 : Int32} {p2 : Int32} {r : Int32} (h : f_X6_entry σ p1 p2 = r) : jv_Cn G l 1 M_X6_entry [.int p1, .int p2] σ (some (.int r)) σ := by
  refine jv_of (L0 := [some (.int p1), some (.int p2)]) (by decide +kernel) (Nat.le_of_ble_eq_true rfl) rfl (jv_okI _) (fun E e1 e2 hE hret => ?_)
  unfold f_X6_entry at h
  refine jv_iload_n (x := p1) (pc' := 1) hE dX6_entry_0 rfl 0 rfl rfl ?_
  refine jv_bipush (v := (50 : Int32)) (pc' := 3) hE dX6_entry_1 rfl (by decide) ?_
  refine jv_imul (x := p1) (y := (50 : Int32)) (pc' := 4) hE dX6_entry_3 rfl ?_
  refine jv_iload_n (x := p2) (pc' := 5) hE dX6_entry_4 rfl 1 rfl rfl ?_
  refine jv_iadd (x := (p1 * (50 : Int32))) (y := p2) (pc' := 6) hE dX6_entry_5 rfl ?_
  cases h
  exact hret _ _ dX6_entry_6
noncomputable def f_X6_list (σ : jv_S) (p1 : Int32) (p2 : Int32) (p3 : Int32) (p4 : Int32) (p5 : Int32) : jv_S := (jv_wr (jv_wr (jv_wr (jv_wr (jv_wr σ 18 500 (f_X6_entry σ p1 (jv_rd (σ.1 22) 10 0 p1)) p2) 19 500 (f_X6_entry σ p1 (jv_rd (σ.1 22) 10 0 p1)) p3) 20 500 (f_X6_entry σ p1 (jv_rd (σ.1 22) 10 0 p1)) p4) 21 500 (f_X6_entry σ p1 (jv_rd (σ.1 22) 10 0 p1)) p5) 22 10 p1 ((jv_rd ((jv_wr (jv_wr (jv_wr (jv_wr σ 18 500 (f_X6_entry σ p1 (jv_rd (σ.1 22) 10 0 p1)) p2) 19 500 (f_X6_entry σ p1 (jv_rd (σ.1 22) 10 0 p1)) p3) 20 500 (f_X6_entry σ p1 (jv_rd (σ.1 22) 10 0 p1)) p4) 21 500 (f_X6_entry σ p1 (jv_rd (σ.1 22) 10 0 p1)) p5).1 22) 10 0 p1) + (1 : Int32)))
set_option maxRecDepth 100000 in
set_option maxHeartbeats 4000000 in
theorem ok_X6_list {G : jv_G} {l : Launch} {σ : jv_S} {p1 : Int32} {p2 : Int32} {p3 : Int32} {p4 : Int32} {p5 : Int32} {r : jv_S} (h : f_X6_list σ p1 p2 p3 p4 p5 = r) : jv_Cn G l 2 M_X6_list [.ref 17, .int p1, .int p2, .int p3, .int p4, .int p5] σ (none) r := by
  refine jv_of (L0 := [some (.ref 17), some (.int p1), some (.int p2), some (.int p3), some (.int p4), some (.int p5), none]) (by decide +kernel) (Nat.le_of_ble_eq_true rfl) rfl jv_okV (fun E e1 e2 hE hret => ?_)
  unfold f_X6_list at h
  refine jv_iload_n (x := p1) (pc' := 1) hE dX6_list_0 rfl 1 rfl rfl ?_
  refine jv_aload_n (x := 17) (pc' := 2) hE dX6_list_1 rfl 0 rfl rfl ?_
  refine jv_get (v := .ref 22) (pc' := 5) hE dX6_list_2 rfl lF_X6_24 rfl rfl rfl ?_
  refine jv_iload_n (x := p1) (pc' := 6) hE dX6_list_5 rfl 1 rfl rfl ?_
  refine jv_callN (pc' := 9) (o := some (.int (jv_rd (σ.1 22) 10 0 p1))) (σ' := σ) hE dX6_list_6 rfl lN_X6_51 (ok_X7_at (n := 10) (by decide) rfl rfl) rfl (by decide) rfl (Nat.le_of_ble_eq_true rfl) ?_
  show jv_V E 9 [some (.ref 17), some (.int p1), some (.int p2), some (.int p3), some (.int p4), some (.int p5), none] [.int (jv_rd (σ.1 22) 10 0 p1), .int p1] σ
  refine jv_callS (pc' := 12) (o := some (.int (f_X6_entry σ p1 (jv_rd (σ.1 22) 10 0 p1)))) (σ' := σ) hE dX6_list_9 rfl lS_X6_82 (ok_X6_entry rfl) rfl (by decide) rfl (Nat.le_of_ble_eq_true rfl) ?_
  show jv_V E 12 [some (.ref 17), some (.int p1), some (.int p2), some (.int p3), some (.int p4), some (.int p5), none] [.int (f_X6_entry σ p1 (jv_rd (σ.1 22) 10 0 p1))] σ
  refine jv_istore (x := (f_X6_entry σ p1 (jv_rd (σ.1 22) 10 0 p1))) (L' := [some (.ref 17), some (.int p1), some (.int p2), some (.int p3), some (.int p4), some (.int p5), some (.int (f_X6_entry σ p1 (jv_rd (σ.1 22) 10 0 p1)))]) (pc' := 14) hE dX6_list_12 rfl (by decide) rfl rfl ?_
  refine jv_aload_n (x := 17) (pc' := 15) hE dX6_list_14 rfl 0 rfl rfl ?_
  refine jv_get (v := .ref 18) (pc' := 18) hE dX6_list_15 rfl lF_X6_11 rfl rfl rfl ?_
  refine jv_iload (x := (f_X6_entry σ p1 (jv_rd (σ.1 22) 10 0 p1))) (pc' := 20) hE dX6_list_18 rfl rfl ?_
  refine jv_iload_n (x := p2) (pc' := 21) hE dX6_list_20 rfl 2 rfl rfl ?_
  refine jv_callN (pc' := 24) (o := none) (σ' := (jv_wr σ 18 500 (f_X6_entry σ p1 (jv_rd (σ.1 22) 10 0 p1)) p2)) hE dX6_list_21 rfl lN_X6_86 (ok_X7_put (n := 500) (by decide) rfl rfl) rfl (by decide) rfl (Nat.le_of_ble_eq_true rfl) ?_
  show jv_V E 24 [some (.ref 17), some (.int p1), some (.int p2), some (.int p3), some (.int p4), some (.int p5), some (.int (f_X6_entry σ p1 (jv_rd (σ.1 22) 10 0 p1)))] [] (jv_wr σ 18 500 (f_X6_entry σ p1 (jv_rd (σ.1 22) 10 0 p1)) p2)
  refine jv_aload_n (x := 17) (pc' := 25) hE dX6_list_24 rfl 0 rfl rfl ?_
  refine jv_get (v := .ref 19) (pc' := 28) hE dX6_list_25 rfl lF_X6_15 rfl rfl rfl ?_
  refine jv_iload (x := (f_X6_entry σ p1 (jv_rd (σ.1 22) 10 0 p1))) (pc' := 30) hE dX6_list_28 rfl rfl ?_
  refine jv_iload_n (x := p3) (pc' := 31) hE dX6_list_30 rfl 3 rfl rfl ?_
  refine jv_callN (pc' := 34) (o := none) (σ' := (jv_wr (jv_wr σ 18 500 (f_X6_entry σ p1 (jv_rd (σ.1 22) 10 0 p1)) p2) 19 500 (f_X6_entry σ p1 (jv_rd (σ.1 22) 10 0 p1)) p3)) hE dX6_list_31 rfl lN_X6_86 (ok_X7_put (n := 500) (by decide) rfl rfl) rfl (by decide) rfl (Nat.le_of_ble_eq_true rfl) ?_
  show jv_V E 34 [some (.ref 17), some (.int p1), some (.int p2), some (.int p3), some (.int p4), some (.int p5), some (.int (f_X6_entry σ p1 (jv_rd (σ.1 22) 10 0 p1)))] [] (jv_wr (jv_wr σ 18 500 (f_X6_entry σ p1 (jv_rd (σ.1 22) 10 0 p1)) p2) 19 500 (f_X6_entry σ p1 (jv_rd (σ.1 22) 10 0 p1)) p3)
  refine jv_aload_n (x := 17) (pc' := 35) hE dX6_list_34 rfl 0 rfl rfl ?_
  refine jv_get (v := .ref 20) (pc' := 38) hE dX6_list_35 rfl lF_X6_18 rfl rfl rfl ?_
  refine jv_iload (x := (f_X6_entry σ p1 (jv_rd (σ.1 22) 10 0 p1))) (pc' := 40) hE dX6_list_38 rfl rfl ?_
  refine jv_iload (x := p4) (pc' := 42) hE dX6_list_40 rfl rfl ?_
  refine jv_callN (pc' := 45) (o := none) (σ' := (jv_wr (jv_wr (jv_wr σ 18 500 (f_X6_entry σ p1 (jv_rd (σ.1 22) 10 0 p1)) p2) 19 500 (f_X6_entry σ p1 (jv_rd (σ.1 22) 10 0 p1)) p3) 20 500 (f_X6_entry σ p1 (jv_rd (σ.1 22) 10 0 p1)) p4)) hE dX6_list_42 rfl lN_X6_86 (ok_X7_put (n := 500) (by decide) rfl rfl) rfl (by decide) rfl (Nat.le_of_ble_eq_true rfl) ?_
  show jv_V E 45 [some (.ref 17), some (.int p1), some (.int p2), some (.int p3), some (.int p4), some (.int p5), some (.int (f_X6_entry σ p1 (jv_rd (σ.1 22) 10 0 p1)))] [] (jv_wr (jv_wr (jv_wr σ 18 500 (f_X6_entry σ p1 (jv_rd (σ.1 22) 10 0 p1)) p2) 19 500 (f_X6_entry σ p1 (jv_rd (σ.1 22) 10 0 p1)) p3) 20 500 (f_X6_entry σ p1 (jv_rd (σ.1 22) 10 0 p1)) p4)
  refine jv_aload_n (x := 17) (pc' := 46) hE dX6_list_45 rfl 0 rfl rfl ?_
  refine jv_get (v := .ref 21) (pc' := 49) hE dX6_list_46 rfl lF_X6_21 rfl rfl rfl ?_
  refine jv_iload (x := (f_X6_entry σ p1 (jv_rd (σ.1 22) 10 0 p1))) (pc' := 51) hE dX6_list_49 rfl rfl ?_
  refine jv_iload (x := p5) (pc' := 53) hE dX6_list_51 rfl rfl ?_
  refine jv_callN (pc' := 56) (o := none) (σ' := (jv_wr (jv_wr (jv_wr (jv_wr σ 18 500 (f_X6_entry σ p1 (jv_rd (σ.1 22) 10 0 p1)) p2) 19 500 (f_X6_entry σ p1 (jv_rd (σ.1 22) 10 0 p1)) p3) 20 500 (f_X6_entry σ p1 (jv_rd (σ.1 22) 10 0 p1)) p4) 21 500 (f_X6_entry σ p1 (jv_rd (σ.1 22) 10 0 p1)) p5)) hE dX6_list_53 rfl lN_X6_86 (ok_X7_put (n := 500) (by decide) rfl rfl) rfl (by decide) rfl (Nat.le_of_ble_eq_true rfl) ?_
  show jv_V E 56 [some (.ref 17), some (.int p1), some (.int p2), some (.int p3), some (.int p4), some (.int p5), some (.int (f_X6_entry σ p1 (jv_rd (σ.1 22) 10 0 p1)))] [] (jv_wr (jv_wr (jv_wr (jv_wr σ 18 500 (f_X6_entry σ p1 (jv_rd (σ.1 22) 10 0 p1)) p2) 19 500 (f_X6_entry σ p1 (jv_rd (σ.1 22) 10 0 p1)) p3) 20 500 (f_X6_entry σ p1 (jv_rd (σ.1 22) 10 0 p1)) p4) 21 500 (f_X6_entry σ p1 (jv_rd (σ.1 22) 10 0 p1)) p5)
  refine jv_aload_n (x := 17) (pc' := 57) hE dX6_list_56 rfl 0 rfl rfl ?_
  refine jv_get (v := .ref 22) (pc' := 60) hE dX6_list_57 rfl lF_X6_24 rfl rfl rfl ?_
  refine jv_iload_n (x := p1) (pc' := 61) hE dX6_list_60 rfl 1 rfl rfl ?_
  refine jv_aload_n (x := 17) (pc' := 62) hE dX6_list_61 rfl 0 rfl rfl ?_
  refine jv_get (v := .ref 22) (pc' := 65) hE dX6_list_62 rfl lF_X6_24 rfl rfl rfl ?_
  refine jv_iload_n (x := p1) (pc' := 66) hE dX6_list_65 rfl 1 rfl rfl ?_
  refine jv_callN (pc' := 69) (o := some (.int (jv_rd ((jv_wr (jv_wr (jv_wr (jv_wr σ 18 500 (f_X6_entry σ p1 (jv_rd (σ.1 22) 10 0 p1)) p2) 19 500 (f_X6_entry σ p1 (jv_rd (σ.1 22) 10 0 p1)) p3) 20 500 (f_X6_entry σ p1 (jv_rd (σ.1 22) 10 0 p1)) p4) 21 500 (f_X6_entry σ p1 (jv_rd (σ.1 22) 10 0 p1)) p5).1 22) 10 0 p1))) (σ' := (jv_wr (jv_wr (jv_wr (jv_wr σ 18 500 (f_X6_entry σ p1 (jv_rd (σ.1 22) 10 0 p1)) p2) 19 500 (f_X6_entry σ p1 (jv_rd (σ.1 22) 10 0 p1)) p3) 20 500 (f_X6_entry σ p1 (jv_rd (σ.1 22) 10 0 p1)) p4) 21 500 (f_X6_entry σ p1 (jv_rd (σ.1 22) 10 0 p1)) p5)) hE dX6_list_66 rfl lN_X6_51 (ok_X7_at (n := 10) (by decide) rfl rfl) rfl (by decide) rfl (Nat.le_of_ble_eq_true rfl) ?_
  show jv_V E 69 [some (.ref 17), some (.int p1), some (.int p2), some (.int p3), some (.int p4), some (.int p5), some (.int (f_X6_entry σ p1 (jv_rd (σ.1 22) 10 0 p1)))] [.int (jv_rd ((jv_wr (jv_wr (jv_wr (jv_wr σ 18 500 (f_X6_entry σ p1 (jv_rd (σ.1 22) 10 0 p1)) p2) 19 500 (f_X6_entry σ p1 (jv_rd (σ.1 22) 10 0 p1)) p3) 20 500 (f_X6_entry σ p1 (jv_rd (σ.1 22) 10 0 p1)) p4) 21 500 (f_X6_entry σ p1 (jv_rd (σ.1 22) 10 0 p1)) p5).1 22) 10 0 p1), .int p1, .ref 22] (jv_wr (jv_wr (jv_wr (jv_wr σ 18 500 (f_X6_entry σ p1 (jv_rd (σ.1 22) 10 0 p1)) p2) 19 500 (f_X6_entry σ p1 (jv_rd (σ.1 22) 10 0 p1)) p3) 20 500 (f_X6_entry σ p1 (jv_rd (σ.1 22) 10 0 p1)) p4) 21 500 (f_X6_entry σ p1 (jv_rd (σ.1 22) 10 0 p1)) p5)
  refine jv_iconst (v := (1 : Int32)) (pc' := 70) hE dX6_list_69 rfl (by decide) ?_
  refine jv_iadd (x := (jv_rd ((jv_wr (jv_wr (jv_wr (jv_wr σ 18 500 (f_X6_entry σ p1 (jv_rd (σ.1 22) 10 0 p1)) p2) 19 500 (f_X6_entry σ p1 (jv_rd (σ.1 22) 10 0 p1)) p3) 20 500 (f_X6_entry σ p1 (jv_rd (σ.1 22) 10 0 p1)) p4) 21 500 (f_X6_entry σ p1 (jv_rd (σ.1 22) 10 0 p1)) p5).1 22) 10 0 p1)) (y := (1 : Int32)) (pc' := 71) hE dX6_list_70 rfl ?_
  refine jv_callN (pc' := 74) (o := none) (σ' := (jv_wr (jv_wr (jv_wr (jv_wr (jv_wr σ 18 500 (f_X6_entry σ p1 (jv_rd (σ.1 22) 10 0 p1)) p2) 19 500 (f_X6_entry σ p1 (jv_rd (σ.1 22) 10 0 p1)) p3) 20 500 (f_X6_entry σ p1 (jv_rd (σ.1 22) 10 0 p1)) p4) 21 500 (f_X6_entry σ p1 (jv_rd (σ.1 22) 10 0 p1)) p5) 22 10 p1 ((jv_rd ((jv_wr (jv_wr (jv_wr (jv_wr σ 18 500 (f_X6_entry σ p1 (jv_rd (σ.1 22) 10 0 p1)) p2) 19 500 (f_X6_entry σ p1 (jv_rd (σ.1 22) 10 0 p1)) p3) 20 500 (f_X6_entry σ p1 (jv_rd (σ.1 22) 10 0 p1)) p4) 21 500 (f_X6_entry σ p1 (jv_rd (σ.1 22) 10 0 p1)) p5).1 22) 10 0 p1) + (1 : Int32)))) hE dX6_list_71 rfl lN_X6_86 (ok_X7_put (n := 10) (by decide) rfl rfl) rfl (by decide) rfl (Nat.le_of_ble_eq_true rfl) ?_
  show jv_V E 74 [some (.ref 17), some (.int p1), some (.int p2), some (.int p3), some (.int p4), some (.int p5), some (.int (f_X6_entry σ p1 (jv_rd (σ.1 22) 10 0 p1)))] [] (jv_wr (jv_wr (jv_wr (jv_wr (jv_wr σ 18 500 (f_X6_entry σ p1 (jv_rd (σ.1 22) 10 0 p1)) p2) 19 500 (f_X6_entry σ p1 (jv_rd (σ.1 22) 10 0 p1)) p3) 20 500 (f_X6_entry σ p1 (jv_rd (σ.1 22) 10 0 p1)) p4) 21 500 (f_X6_entry σ p1 (jv_rd (σ.1 22) 10 0 p1)) p5) 22 10 p1 ((jv_rd ((jv_wr (jv_wr (jv_wr (jv_wr σ 18 500 (f_X6_entry σ p1 (jv_rd (σ.1 22) 10 0 p1)) p2) 19 500 (f_X6_entry σ p1 (jv_rd (σ.1 22) 10 0 p1)) p3) 20 500 (f_X6_entry σ p1 (jv_rd (σ.1 22) 10 0 p1)) p4) 21 500 (f_X6_entry σ p1 (jv_rd (σ.1 22) 10 0 p1)) p5).1 22) 10 0 p1) + (1 : Int32)))
  cases h
  exact hret _ _ dX6_list_74
noncomputable def f_X6_restart (σ : jv_S) (p1 : Int32) (p2 : Int32) : jv_S := jv_lt (f_X6_list (jv_fl (jv_fl (jv_si (jv_si σ 17 7 p1) 17 8 (0 : Int32)) 22 10 (0 : Int32)) 23 24 (0 : Int32)) p2 (0 : Int32) (0 : Int32) (-1 : Int32) (0 : Int32)) (fun q1 => q1)
set_option maxRecDepth 100000 in
set_option maxHeartbeats 4000000 in
theorem ok_X6_restart {G : jv_G} {l : Launch} {σ : jv_S} {p1 : Int32} {p2 : Int32} {r : jv_S} (h : f_X6_restart σ p1 p2 = r) : jv_Cn G l 3 M_X6_restart [.ref 17, .int p1, .int p2] σ (none) r := by
  refine jv_of (L0 := [some (.ref 17), some (.int p1), some (.int p2)]) (by decide +kernel) (Nat.le_of_ble_eq_true rfl) rfl jv_okV (fun E e1 e2 hE hret => ?_)
  unfold f_X6_restart at h
  refine jv_aload_n (x := 17) (pc' := 1) hE dX6_restart_0 rfl 0 rfl rfl ?_
  refine jv_iload_n (x := p1) (pc' := 2) hE dX6_restart_1 rfl 1 rfl rfl ?_
  refine jv_puti (x := p1) (pc' := 5) hE dX6_restart_2 rfl lP_X6_34 rfl rfl rfl rfl ?_
  refine jv_aload_n (x := 17) (pc' := 6) hE dX6_restart_5 rfl 0 rfl rfl ?_
  refine jv_iconst (v := (0 : Int32)) (pc' := 7) hE dX6_restart_6 rfl (by decide) ?_
  refine jv_puti (x := (0 : Int32)) (pc' := 10) hE dX6_restart_7 rfl lP_X6_38 rfl rfl rfl rfl ?_
  refine jv_aload_n (x := 17) (pc' := 11) hE dX6_restart_10 rfl 0 rfl rfl ?_
  refine jv_get (v := .ref 22) (pc' := 14) hE dX6_restart_11 rfl lF_X6_24 rfl rfl rfl ?_
  refine jv_iconst (v := (0 : Int32)) (pc' := 15) hE dX6_restart_14 rfl (by decide) ?_
  refine jv_callS (pc' := 18) (o := none) (σ' := (jv_fl (jv_si (jv_si σ 17 7 p1) 17 8 (0 : Int32)) 22 10 (0 : Int32))) hE dX6_restart_15 rfl lS_X6_41 (ok_J7_fill_53178 (n := 10) (by decide) rfl rfl) rfl (by decide) rfl (Nat.le_of_ble_eq_true rfl) ?_
  show jv_V E 18 [some (.ref 17), some (.int p1), some (.int p2)] [] (jv_fl (jv_si (jv_si σ 17 7 p1) 17 8 (0 : Int32)) 22 10 (0 : Int32))
  refine jv_aload_n (x := 17) (pc' := 19) hE dX6_restart_18 rfl 0 rfl rfl ?_
  refine jv_get (v := .ref 23) (pc' := 22) hE dX6_restart_19 rfl lF_X6_27 rfl rfl rfl ?_
  refine jv_iconst (v := (0 : Int32)) (pc' := 23) hE dX6_restart_22 rfl (by decide) ?_
  refine jv_callS (pc' := 26) (o := none) (σ' := (jv_fl (jv_fl (jv_si (jv_si σ 17 7 p1) 17 8 (0 : Int32)) 22 10 (0 : Int32)) 23 24 (0 : Int32))) hE dX6_restart_23 rfl lS_X6_41 (ok_J7_fill_53178 (n := 24) (by decide) rfl rfl) rfl (by decide) rfl (Nat.le_of_ble_eq_true rfl) ?_
  show jv_V E 26 [some (.ref 17), some (.int p1), some (.int p2)] [] (jv_fl (jv_fl (jv_si (jv_si σ 17 7 p1) 17 8 (0 : Int32)) 22 10 (0 : Int32)) 23 24 (0 : Int32))
  refine jv_aload_n (x := 17) (pc' := 27) hE dX6_restart_26 rfl 0 rfl rfl ?_
  refine jv_iload_n (x := p2) (pc' := 28) hE dX6_restart_27 rfl 2 rfl rfl ?_
  refine jv_iconst (v := (0 : Int32)) (pc' := 29) hE dX6_restart_28 rfl (by decide) ?_
  refine jv_iconst (v := (0 : Int32)) (pc' := 30) hE dX6_restart_29 rfl (by decide) ?_
  refine jv_iconst (v := (-1 : Int32)) (pc' := 31) hE dX6_restart_30 rfl (by decide) ?_
  refine jv_iconst (v := (0 : Int32)) (pc' := 32) hE dX6_restart_31 rfl (by decide) ?_
  obtain ⟨q1, hq1, h⟩ := jv_lt_eq h
  refine jv_callV (pc' := 35) (o := none) (σ' := q1) hE dX6_restart_32 rfl lV_X6_47 (ok_X6_list hq1) rfl rfl rfl (by decide) rfl (Nat.le_of_ble_eq_true rfl) ?_
  show jv_V E 35 [some (.ref 17), some (.int p1), some (.int p2)] [] q1
  cases h
  exact hret _ _ dX6_restart_35
noncomputable def f_X6_drawnTotal (σ : jv_S) : Int32 := (σ.1 17 8)
set_option maxRecDepth 100000 in
set_option maxHeartbeats 4000000 in
theorem ok_X6_drawnTotal {G : jv_G} {l : Launch} {σ : jv_S} {r : Int32} (h : f_X6_drawnTotal σ = r) : jv_Cn G l 1 M_X6_drawnTotal [.ref 17] σ (some (.int r)) σ := by
  refine jv_of (L0 := [some (.ref 17)]) (by decide +kernel) (Nat.le_of_ble_eq_true rfl) rfl (jv_okI _) (fun E e1 e2 hE hret => ?_)
  unfold f_X6_drawnTotal at h
  refine jv_aload_n (x := 17) (pc' := 1) hE dX6_drawnTotal_0 rfl 0 rfl rfl ?_
  refine jv_get (v := .int (σ.1 17 8)) (pc' := 4) hE dX6_drawnTotal_1 rfl lF_X6_38 rfl rfl rfl ?_
  cases h
  exact hret _ _ dX6_drawnTotal_4
noncomputable def f_X6_shortestEdge_lp7 : Nat → Int32 → Int32 → Int32 → jv_S → Option (Int32 × Int32 × Int32)
  | 0, _, _, _, _ => none
  | n + 1, v1, v2, v3, σ => if (f_X3_usableTotal σ) ≤ v3 then (some (v1, v2, v3)) else (jv_lt (if (jv_rd (σ.1 22) 10 0 (f_X3_headOf σ (f_X3_outEdge σ v3))) ≤ (jv_rd (σ.1 23) 24 0 (f_X3_outEdge σ v3)) then ((v1, v2)) else (if (jv_rd (σ.1 22) 10 0 (f_X3_tailOf σ (f_X3_outEdge σ v3))) < (50 : Int32) then (if v2 ≤ ((f_X3_lengthOf σ (f_X3_outEdge σ v3)) + (jv_rd (σ.1 18) 500 0 (f_X6_entry σ (f_X3_headOf σ (f_X3_outEdge σ v3)) (jv_rd (σ.1 23) 24 0 (f_X3_outEdge σ v3))))) then ((v1, v2)) else (((f_X3_outEdge σ v3), ((f_X3_lengthOf σ (f_X3_outEdge σ v3)) + (jv_rd (σ.1 18) 500 0 (f_X6_entry σ (f_X3_headOf σ (f_X3_outEdge σ v3)) (jv_rd (σ.1 23) 24 0 (f_X3_outEdge σ v3)))))))) else ((v1, v2)))) (fun q3 => f_X6_shortestEdge_lp7 n q3.1 q3.2 (v3 + (1 : Int32)) σ))
noncomputable def f_X6_shortestEdge (σ : jv_S) : Option (Int32) := jv_bd (f_X6_shortestEdge_lp7 jv_fuel (-1 : Int32) (1000000000 : Int32) (0 : Int32) σ) (fun q6 => some q6.1)
set_option maxRecDepth 100000 in
set_option maxHeartbeats 4000000 in
theorem lp_X6_shortestEdge_7 {σ : jv_S} {E : jv_E} (hE : jv_Cx E RX6 cX6_shortestEdge 7 3) : ∀ (n : Nat) (v1 : Int32) (v2 : Int32) (v3 : Int32)  (q : Int32 × Int32 × Int32), f_X6_shortestEdge_lp7 n v1 v2 v3 σ = some q → (jv_V E 135 [none, some (.int q.1), none, none, none, none, none] [] σ) → jv_V E 7 [some (.ref 17), some (.int v1), some (.int v2), some (.int v3), none, none, none] [] σ := by
  intro n
  induction n with
  | zero =>
    intro v1 v2 v3 q h
    rw [f_X6_shortestEdge_lp7] at h
    cases h
  | succ n ih =>
    intro v1 v2 v3 q h hk
    rw [f_X6_shortestEdge_lp7] at h
    refine jv_iload_n (x := v3) (pc' := 8) hE dX6_shortestEdge_7 rfl 3 rfl rfl ?_
    refine jv_aload_n (x := 17) (pc' := 9) hE dX6_shortestEdge_8 rfl 0 rfl rfl ?_
    refine jv_get (v := .ref 1) (pc' := 12) hE dX6_shortestEdge_9 rfl lF_X6_30 rfl rfl rfl ?_
    refine jv_callV (pc' := 15) (o := some (.int (f_X3_usableTotal σ))) (σ' := σ) hE dX6_shortestEdge_12 rfl lV_X6_64 (ok_X3_usableTotal rfl) rfl rfl rfl (by decide) rfl (Nat.le_of_ble_eq_true rfl) ?_
    show jv_V E 15 [some (.ref 17), some (.int v1), some (.int v2), some (.int v3), none, none, none] [.int (f_X3_usableTotal σ), .int v3] σ
    refine jv_icmp_ge (x := v3) (y := (f_X3_usableTotal σ)) (tgt := 135) (pc' := 18) hE dX6_shortestEdge_15 (by decide) rfl (fun c1 => ?_) (fun c1 => ?_)
    · rw [if_pos c1] at h
      cases h
      exact jv_forget [false, true, false, false, true, true, true] hk
    · rw [if_neg c1] at h
      refine jv_aload_n (x := 17) (pc' := 19) hE dX6_shortestEdge_18 rfl 0 rfl rfl ?_
      refine jv_get (v := .ref 1) (pc' := 22) hE dX6_shortestEdge_19 rfl lF_X6_30 rfl rfl rfl ?_
      refine jv_iload_n (x := v3) (pc' := 23) hE dX6_shortestEdge_22 rfl 3 rfl rfl ?_
      refine jv_callV (pc' := 26) (o := some (.int (f_X3_outEdge σ v3))) (σ' := σ) hE dX6_shortestEdge_23 rfl lV_X6_69 (ok_X3_outEdge rfl) rfl rfl rfl (by decide) rfl (Nat.le_of_ble_eq_true rfl) ?_
      show jv_V E 26 [some (.ref 17), some (.int v1), some (.int v2), some (.int v3), none, none, none] [.int (f_X3_outEdge σ v3)] σ
      refine jv_istore (x := (f_X3_outEdge σ v3)) (L' := [some (.ref 17), some (.int v1), some (.int v2), some (.int v3), some (.int (f_X3_outEdge σ v3)), none, none]) (pc' := 28) hE dX6_shortestEdge_26 rfl (by decide) rfl rfl ?_
      refine jv_aload_n (x := 17) (pc' := 29) hE dX6_shortestEdge_28 rfl 0 rfl rfl ?_
      refine jv_get (v := .ref 1) (pc' := 32) hE dX6_shortestEdge_29 rfl lF_X6_30 rfl rfl rfl ?_
      refine jv_iload (x := (f_X3_outEdge σ v3)) (pc' := 34) hE dX6_shortestEdge_32 rfl rfl ?_
      refine jv_callV (pc' := 37) (o := some (.int (f_X3_headOf σ (f_X3_outEdge σ v3)))) (σ' := σ) hE dX6_shortestEdge_34 rfl lV_X6_73 (ok_X3_headOf rfl) rfl rfl rfl (by decide) rfl (Nat.le_of_ble_eq_true rfl) ?_
      show jv_V E 37 [some (.ref 17), some (.int v1), some (.int v2), some (.int v3), some (.int (f_X3_outEdge σ v3)), none, none] [.int (f_X3_headOf σ (f_X3_outEdge σ v3))] σ
      refine jv_istore (x := (f_X3_headOf σ (f_X3_outEdge σ v3))) (L' := [some (.ref 17), some (.int v1), some (.int v2), some (.int v3), some (.int (f_X3_outEdge σ v3)), some (.int (f_X3_headOf σ (f_X3_outEdge σ v3))), none]) (pc' := 39) hE dX6_shortestEdge_37 rfl (by decide) rfl rfl ?_
      refine jv_aload_n (x := 17) (pc' := 40) hE dX6_shortestEdge_39 rfl 0 rfl rfl ?_
      refine jv_get (v := .ref 23) (pc' := 43) hE dX6_shortestEdge_40 rfl lF_X6_27 rfl rfl rfl ?_
      refine jv_iload (x := (f_X3_outEdge σ v3)) (pc' := 45) hE dX6_shortestEdge_43 rfl rfl ?_
      refine jv_callN (pc' := 48) (o := some (.int (jv_rd (σ.1 23) 24 0 (f_X3_outEdge σ v3)))) (σ' := σ) hE dX6_shortestEdge_45 rfl lN_X6_51 (ok_X7_at (n := 24) (by decide) rfl rfl) rfl (by decide) rfl (Nat.le_of_ble_eq_true rfl) ?_
      show jv_V E 48 [some (.ref 17), some (.int v1), some (.int v2), some (.int v3), some (.int (f_X3_outEdge σ v3)), some (.int (f_X3_headOf σ (f_X3_outEdge σ v3))), none] [.int (jv_rd (σ.1 23) 24 0 (f_X3_outEdge σ v3))] σ
      refine jv_aload_n (x := 17) (pc' := 49) hE dX6_shortestEdge_48 rfl 0 rfl rfl ?_
      refine jv_get (v := .ref 22) (pc' := 52) hE dX6_shortestEdge_49 rfl lF_X6_24 rfl rfl rfl ?_
      refine jv_iload (x := (f_X3_headOf σ (f_X3_outEdge σ v3))) (pc' := 54) hE dX6_shortestEdge_52 rfl rfl ?_
      refine jv_callN (pc' := 57) (o := some (.int (jv_rd (σ.1 22) 10 0 (f_X3_headOf σ (f_X3_outEdge σ v3))))) (σ' := σ) hE dX6_shortestEdge_54 rfl lN_X6_51 (ok_X7_at (n := 10) (by decide) rfl rfl) rfl (by decide) rfl (Nat.le_of_ble_eq_true rfl) ?_
      show jv_V E 57 [some (.ref 17), some (.int v1), some (.int v2), some (.int v3), some (.int (f_X3_outEdge σ v3)), some (.int (f_X3_headOf σ (f_X3_outEdge σ v3))), none] [.int (jv_rd (σ.1 22) 10 0 (f_X3_headOf σ (f_X3_outEdge σ v3))), .int (jv_rd (σ.1 23) 24 0 (f_X3_outEdge σ v3))] σ
      obtain ⟨q3, hq3, h⟩ := jv_lt_eq h
      have kq3 : jv_V E 129 [some (.ref 17), some (.int q3.1), some (.int q3.2), some (.int v3), none, none, none] [] σ := by
        refine jv_iinc (x := v3) (v := (v3 + (1 : Int32))) (L' := [some (.ref 17), some (.int q3.1), some (.int q3.2), some (.int (v3 + (1 : Int32))), none, none, none]) (pc' := 132) hE dX6_shortestEdge_129 rfl rfl rfl (by decide) rfl rfl ?_
        refine jv_goto (tgt := 7) hE dX6_shortestEdge_132 (by decide) ?_
        exact jv_forget [true, true, true, true, true, true, true] (ih q3.1 q3.2 (v3 + (1 : Int32)) _ h hk)
      refine jv_icmp_ge (x := (jv_rd (σ.1 23) 24 0 (f_X3_outEdge σ v3))) (y := (jv_rd (σ.1 22) 10 0 (f_X3_headOf σ (f_X3_outEdge σ v3)))) (tgt := 129) (pc' := 60) hE dX6_shortestEdge_57 (by decide) rfl (fun c2 => ?_) (fun c2 => ?_)
      · rw [if_pos c2] at hq3
        cases hq3
        exact jv_forget [true, true, true, true, false, false, true] kq3
      · rw [if_neg c2] at hq3
        refine jv_aload_n (x := 17) (pc' := 61) hE dX6_shortestEdge_60 rfl 0 rfl rfl ?_
        refine jv_get (v := .ref 22) (pc' := 64) hE dX6_shortestEdge_61 rfl lF_X6_24 rfl rfl rfl ?_
        refine jv_aload_n (x := 17) (pc' := 65) hE dX6_shortestEdge_64 rfl 0 rfl rfl ?_
        refine jv_get (v := .ref 1) (pc' := 68) hE dX6_shortestEdge_65 rfl lF_X6_30 rfl rfl rfl ?_
        refine jv_iload (x := (f_X3_outEdge σ v3)) (pc' := 70) hE dX6_shortestEdge_68 rfl rfl ?_
        refine jv_callV (pc' := 73) (o := some (.int (f_X3_tailOf σ (f_X3_outEdge σ v3)))) (σ' := σ) hE dX6_shortestEdge_70 rfl lV_X6_76 (ok_X3_tailOf rfl) rfl rfl rfl (by decide) rfl (Nat.le_of_ble_eq_true rfl) ?_
        show jv_V E 73 [some (.ref 17), some (.int v1), some (.int v2), some (.int v3), some (.int (f_X3_outEdge σ v3)), some (.int (f_X3_headOf σ (f_X3_outEdge σ v3))), none] [.int (f_X3_tailOf σ (f_X3_outEdge σ v3)), .ref 22] σ
        refine jv_callN (pc' := 76) (o := some (.int (jv_rd (σ.1 22) 10 0 (f_X3_tailOf σ (f_X3_outEdge σ v3))))) (σ' := σ) hE dX6_shortestEdge_73 rfl lN_X6_51 (ok_X7_at (n := 10) (by decide) rfl rfl) rfl (by decide) rfl (Nat.le_of_ble_eq_true rfl) ?_
        show jv_V E 76 [some (.ref 17), some (.int v1), some (.int v2), some (.int v3), some (.int (f_X3_outEdge σ v3)), some (.int (f_X3_headOf σ (f_X3_outEdge σ v3))), none] [.int (jv_rd (σ.1 22) 10 0 (f_X3_tailOf σ (f_X3_outEdge σ v3)))] σ
        refine jv_bipush (v := (50 : Int32)) (pc' := 78) hE dX6_shortestEdge_76 rfl (by decide) ?_
        refine jv_icmp_lt (x := (jv_rd (σ.1 22) 10 0 (f_X3_tailOf σ (f_X3_outEdge σ v3)))) (y := (50 : Int32)) (tgt := 84) (pc' := 81) hE dX6_shortestEdge_78 (by decide) rfl (fun c4 => ?_) (fun c4 => ?_)
        · rw [if_pos c4] at hq3
          refine jv_aload_n (x := 17) (pc' := 85) hE dX6_shortestEdge_84 rfl 0 rfl rfl ?_
          refine jv_get (v := .ref 1) (pc' := 88) hE dX6_shortestEdge_85 rfl lF_X6_30 rfl rfl rfl ?_
          refine jv_iload (x := (f_X3_outEdge σ v3)) (pc' := 90) hE dX6_shortestEdge_88 rfl rfl ?_
          refine jv_callV (pc' := 93) (o := some (.int (f_X3_lengthOf σ (f_X3_outEdge σ v3)))) (σ' := σ) hE dX6_shortestEdge_90 rfl lV_X6_79 (ok_X3_lengthOf rfl) rfl rfl rfl (by decide) rfl (Nat.le_of_ble_eq_true rfl) ?_
          show jv_V E 93 [some (.ref 17), some (.int v1), some (.int v2), some (.int v3), some (.int (f_X3_outEdge σ v3)), some (.int (f_X3_headOf σ (f_X3_outEdge σ v3))), none] [.int (f_X3_lengthOf σ (f_X3_outEdge σ v3))] σ
          refine jv_aload_n (x := 17) (pc' := 94) hE dX6_shortestEdge_93 rfl 0 rfl rfl ?_
          refine jv_get (v := .ref 18) (pc' := 97) hE dX6_shortestEdge_94 rfl lF_X6_11 rfl rfl rfl ?_
          refine jv_iload (x := (f_X3_headOf σ (f_X3_outEdge σ v3))) (pc' := 99) hE dX6_shortestEdge_97 rfl rfl ?_
          refine jv_aload_n (x := 17) (pc' := 100) hE dX6_shortestEdge_99 rfl 0 rfl rfl ?_
          refine jv_get (v := .ref 23) (pc' := 103) hE dX6_shortestEdge_100 rfl lF_X6_27 rfl rfl rfl ?_
          refine jv_iload (x := (f_X3_outEdge σ v3)) (pc' := 105) hE dX6_shortestEdge_103 rfl rfl ?_
          refine jv_callN (pc' := 108) (o := some (.int (jv_rd (σ.1 23) 24 0 (f_X3_outEdge σ v3)))) (σ' := σ) hE dX6_shortestEdge_105 rfl lN_X6_51 (ok_X7_at (n := 24) (by decide) rfl rfl) rfl (by decide) rfl (Nat.le_of_ble_eq_true rfl) ?_
          show jv_V E 108 [some (.ref 17), some (.int v1), some (.int v2), some (.int v3), some (.int (f_X3_outEdge σ v3)), some (.int (f_X3_headOf σ (f_X3_outEdge σ v3))), none] [.int (jv_rd (σ.1 23) 24 0 (f_X3_outEdge σ v3)), .int (f_X3_headOf σ (f_X3_outEdge σ v3)), .ref 18, .int (f_X3_lengthOf σ (f_X3_outEdge σ v3))] σ
          refine jv_callS (pc' := 111) (o := some (.int (f_X6_entry σ (f_X3_headOf σ (f_X3_outEdge σ v3)) (jv_rd (σ.1 23) 24 0 (f_X3_outEdge σ v3))))) (σ' := σ) hE dX6_shortestEdge_108 rfl lS_X6_82 (ok_X6_entry rfl) rfl (by decide) rfl (Nat.le_of_ble_eq_true rfl) ?_
          show jv_V E 111 [some (.ref 17), some (.int v1), some (.int v2), some (.int v3), some (.int (f_X3_outEdge σ v3)), some (.int (f_X3_headOf σ (f_X3_outEdge σ v3))), none] [.int (f_X6_entry σ (f_X3_headOf σ (f_X3_outEdge σ v3)) (jv_rd (σ.1 23) 24 0 (f_X3_outEdge σ v3))), .ref 18, .int (f_X3_lengthOf σ (f_X3_outEdge σ v3))] σ
          refine jv_callN (pc' := 114) (o := some (.int (jv_rd (σ.1 18) 500 0 (f_X6_entry σ (f_X3_headOf σ (f_X3_outEdge σ v3)) (jv_rd (σ.1 23) 24 0 (f_X3_outEdge σ v3)))))) (σ' := σ) hE dX6_shortestEdge_111 rfl lN_X6_51 (ok_X7_at (n := 500) (by decide) rfl rfl) rfl (by decide) rfl (Nat.le_of_ble_eq_true rfl) ?_
          show jv_V E 114 [some (.ref 17), some (.int v1), some (.int v2), some (.int v3), some (.int (f_X3_outEdge σ v3)), some (.int (f_X3_headOf σ (f_X3_outEdge σ v3))), none] [.int (jv_rd (σ.1 18) 500 0 (f_X6_entry σ (f_X3_headOf σ (f_X3_outEdge σ v3)) (jv_rd (σ.1 23) 24 0 (f_X3_outEdge σ v3)))), .int (f_X3_lengthOf σ (f_X3_outEdge σ v3))] σ
          refine jv_iadd (x := (f_X3_lengthOf σ (f_X3_outEdge σ v3))) (y := (jv_rd (σ.1 18) 500 0 (f_X6_entry σ (f_X3_headOf σ (f_X3_outEdge σ v3)) (jv_rd (σ.1 23) 24 0 (f_X3_outEdge σ v3))))) (pc' := 115) hE dX6_shortestEdge_114 rfl ?_
          refine jv_istore (x := ((f_X3_lengthOf σ (f_X3_outEdge σ v3)) + (jv_rd (σ.1 18) 500 0 (f_X6_entry σ (f_X3_headOf σ (f_X3_outEdge σ v3)) (jv_rd (σ.1 23) 24 0 (f_X3_outEdge σ v3)))))) (L' := [some (.ref 17), some (.int v1), some (.int v2), some (.int v3), some (.int (f_X3_outEdge σ v3)), some (.int (f_X3_headOf σ (f_X3_outEdge σ v3))), some (.int ((f_X3_lengthOf σ (f_X3_outEdge σ v3)) + (jv_rd (σ.1 18) 500 0 (f_X6_entry σ (f_X3_headOf σ (f_X3_outEdge σ v3)) (jv_rd (σ.1 23) 24 0 (f_X3_outEdge σ v3))))))]) (pc' := 117) hE dX6_shortestEdge_115 rfl (by decide) rfl rfl ?_
          refine jv_iload (x := ((f_X3_lengthOf σ (f_X3_outEdge σ v3)) + (jv_rd (σ.1 18) 500 0 (f_X6_entry σ (f_X3_headOf σ (f_X3_outEdge σ v3)) (jv_rd (σ.1 23) 24 0 (f_X3_outEdge σ v3)))))) (pc' := 119) hE dX6_shortestEdge_117 rfl rfl ?_
          refine jv_iload_n (x := v2) (pc' := 120) hE dX6_shortestEdge_119 rfl 2 rfl rfl ?_
          refine jv_icmp_ge (x := ((f_X3_lengthOf σ (f_X3_outEdge σ v3)) + (jv_rd (σ.1 18) 500 0 (f_X6_entry σ (f_X3_headOf σ (f_X3_outEdge σ v3)) (jv_rd (σ.1 23) 24 0 (f_X3_outEdge σ v3)))))) (y := v2) (tgt := 129) (pc' := 123) hE dX6_shortestEdge_120 (by decide) rfl (fun c5 => ?_) (fun c5 => ?_)
          · rw [if_pos c5] at hq3
            cases hq3
            exact jv_forget [true, true, true, true, false, false, false] kq3
          · rw [if_neg c5] at hq3
            refine jv_iload (x := ((f_X3_lengthOf σ (f_X3_outEdge σ v3)) + (jv_rd (σ.1 18) 500 0 (f_X6_entry σ (f_X3_headOf σ (f_X3_outEdge σ v3)) (jv_rd (σ.1 23) 24 0 (f_X3_outEdge σ v3)))))) (pc' := 125) hE dX6_shortestEdge_123 rfl rfl ?_
            refine jv_istore_n (x := ((f_X3_lengthOf σ (f_X3_outEdge σ v3)) + (jv_rd (σ.1 18) 500 0 (f_X6_entry σ (f_X3_headOf σ (f_X3_outEdge σ v3)) (jv_rd (σ.1 23) 24 0 (f_X3_outEdge σ v3)))))) (L' := [some (.ref 17), some (.int v1), some (.int ((f_X3_lengthOf σ (f_X3_outEdge σ v3)) + (jv_rd (σ.1 18) 500 0 (f_X6_entry σ (f_X3_headOf σ (f_X3_outEdge σ v3)) (jv_rd (σ.1 23) 24 0 (f_X3_outEdge σ v3)))))), some (.int v3), some (.int (f_X3_outEdge σ v3)), some (.int (f_X3_headOf σ (f_X3_outEdge σ v3))), some (.int ((f_X3_lengthOf σ (f_X3_outEdge σ v3)) + (jv_rd (σ.1 18) 500 0 (f_X6_entry σ (f_X3_headOf σ (f_X3_outEdge σ v3)) (jv_rd (σ.1 23) 24 0 (f_X3_outEdge σ v3))))))]) (pc' := 126) hE dX6_shortestEdge_125 rfl 2 rfl (by decide) rfl rfl ?_
            refine jv_iload (x := (f_X3_outEdge σ v3)) (pc' := 128) hE dX6_shortestEdge_126 rfl rfl ?_
            refine jv_istore_n (x := (f_X3_outEdge σ v3)) (L' := [some (.ref 17), some (.int (f_X3_outEdge σ v3)), some (.int ((f_X3_lengthOf σ (f_X3_outEdge σ v3)) + (jv_rd (σ.1 18) 500 0 (f_X6_entry σ (f_X3_headOf σ (f_X3_outEdge σ v3)) (jv_rd (σ.1 23) 24 0 (f_X3_outEdge σ v3)))))), some (.int v3), some (.int (f_X3_outEdge σ v3)), some (.int (f_X3_headOf σ (f_X3_outEdge σ v3))), some (.int ((f_X3_lengthOf σ (f_X3_outEdge σ v3)) + (jv_rd (σ.1 18) 500 0 (f_X6_entry σ (f_X3_headOf σ (f_X3_outEdge σ v3)) (jv_rd (σ.1 23) 24 0 (f_X3_outEdge σ v3))))))]) (pc' := 129) hE dX6_shortestEdge_128 rfl 1 rfl (by decide) rfl rfl ?_
            cases hq3
            exact jv_forget [true, true, true, true, false, false, false] kq3
        · rw [if_neg c4] at hq3
          refine jv_goto (tgt := 129) hE dX6_shortestEdge_81 (by decide) ?_
          cases hq3
          exact jv_forget [true, true, true, true, false, false, true] kq3
set_option maxRecDepth 100000 in
set_option maxHeartbeats 4000000 in
theorem ok_X6_shortestEdge {G : jv_G} {l : Launch} {σ : jv_S} {r : Int32} (h : f_X6_shortestEdge σ = some r) : jv_Cn G l 3 M_X6_shortestEdge [.ref 17] σ (some (.int r)) σ := by
  refine jv_of (L0 := [some (.ref 17), none, none, none, none, none, none]) (by decide +kernel) (Nat.le_of_ble_eq_true rfl) rfl (jv_okI _) (fun E e1 e2 hE hret => ?_)
  unfold f_X6_shortestEdge at h
  refine jv_iconst (v := (-1 : Int32)) (pc' := 1) hE dX6_shortestEdge_0 rfl (by decide) ?_
  refine jv_istore_n (x := (-1 : Int32)) (L' := [some (.ref 17), some (.int (-1 : Int32)), none, none, none, none, none]) (pc' := 2) hE dX6_shortestEdge_1 rfl 1 rfl (by decide) rfl rfl ?_
  refine jv_ldc (v := (1000000000 : Int32)) (pc' := 4) hE dX6_shortestEdge_2 rfl lC_X6_63 ?_
  refine jv_istore_n (x := (1000000000 : Int32)) (L' := [some (.ref 17), some (.int (-1 : Int32)), some (.int (1000000000 : Int32)), none, none, none, none]) (pc' := 5) hE dX6_shortestEdge_4 rfl 2 rfl (by decide) rfl rfl ?_
  refine jv_iconst (v := (0 : Int32)) (pc' := 6) hE dX6_shortestEdge_5 rfl (by decide) ?_
  refine jv_istore_n (x := (0 : Int32)) (L' := [some (.ref 17), some (.int (-1 : Int32)), some (.int (1000000000 : Int32)), some (.int (0 : Int32)), none, none, none]) (pc' := 7) hE dX6_shortestEdge_6 rfl 3 rfl (by decide) rfl rfl ?_
  obtain ⟨q6, hq6, h⟩ := jv_bd_some h
  refine jv_forget [true, true, true, true, true, true, true] (lp_X6_shortestEdge_7 hE jv_fuel (-1 : Int32) (1000000000 : Int32) (0 : Int32) _ hq6 ?_)
  refine jv_iload_n (x := q6.1) (pc' := 136) hE dX6_shortestEdge_135 rfl 1 rfl rfl ?_
  cases h
  exact hret _ _ dX6_shortestEdge_136
noncomputable def f_X6_putAhead (σ : jv_S) (p1 : Int32) : jv_S := jv_lt (f_X6_list (jv_wr σ 23 24 p1 ((jv_rd (σ.1 23) 24 0 p1) + (1 : Int32))) (f_X3_tailOf (jv_wr σ 23 24 p1 ((jv_rd (σ.1 23) 24 0 p1) + (1 : Int32))) p1) ((f_X3_lengthOf σ p1) + (jv_rd (σ.1 18) 500 0 (f_X6_entry σ (f_X3_headOf σ p1) (jv_rd (σ.1 23) 24 0 p1)))) ((jv_rd ((jv_wr σ 23 24 p1 ((jv_rd (σ.1 23) 24 0 p1) + (1 : Int32))).1 19) 500 0 (f_X6_entry σ (f_X3_headOf σ p1) (jv_rd (σ.1 23) 24 0 p1))) + (1 : Int32)) p1 (f_X6_entry σ (f_X3_headOf σ p1) (jv_rd (σ.1 23) 24 0 p1))) (fun q1 => q1)
set_option maxRecDepth 100000 in
set_option maxHeartbeats 4000000 in
theorem ok_X6_putAhead {G : jv_G} {l : Launch} {σ : jv_S} {p1 : Int32} {r : jv_S} (h : f_X6_putAhead σ p1 = r) : jv_Cn G l 3 M_X6_putAhead [.ref 17, .int p1] σ (none) r := by
  refine jv_of (L0 := [some (.ref 17), some (.int p1), none, none]) (by decide +kernel) (Nat.le_of_ble_eq_true rfl) rfl jv_okV (fun E e1 e2 hE hret => ?_)
  unfold f_X6_putAhead at h
  refine jv_aload_n (x := 17) (pc' := 1) hE dX6_putAhead_0 rfl 0 rfl rfl ?_
  refine jv_get (v := .ref 1) (pc' := 4) hE dX6_putAhead_1 rfl lF_X6_30 rfl rfl rfl ?_
  refine jv_iload_n (x := p1) (pc' := 5) hE dX6_putAhead_4 rfl 1 rfl rfl ?_
  refine jv_callV (pc' := 8) (o := some (.int (f_X3_headOf σ p1))) (σ' := σ) hE dX6_putAhead_5 rfl lV_X6_73 (ok_X3_headOf rfl) rfl rfl rfl (by decide) rfl (Nat.le_of_ble_eq_true rfl) ?_
  show jv_V E 8 [some (.ref 17), some (.int p1), none, none] [.int (f_X3_headOf σ p1)] σ
  refine jv_aload_n (x := 17) (pc' := 9) hE dX6_putAhead_8 rfl 0 rfl rfl ?_
  refine jv_get (v := .ref 23) (pc' := 12) hE dX6_putAhead_9 rfl lF_X6_27 rfl rfl rfl ?_
  refine jv_iload_n (x := p1) (pc' := 13) hE dX6_putAhead_12 rfl 1 rfl rfl ?_
  refine jv_callN (pc' := 16) (o := some (.int (jv_rd (σ.1 23) 24 0 p1))) (σ' := σ) hE dX6_putAhead_13 rfl lN_X6_51 (ok_X7_at (n := 24) (by decide) rfl rfl) rfl (by decide) rfl (Nat.le_of_ble_eq_true rfl) ?_
  show jv_V E 16 [some (.ref 17), some (.int p1), none, none] [.int (jv_rd (σ.1 23) 24 0 p1), .int (f_X3_headOf σ p1)] σ
  refine jv_callS (pc' := 19) (o := some (.int (f_X6_entry σ (f_X3_headOf σ p1) (jv_rd (σ.1 23) 24 0 p1)))) (σ' := σ) hE dX6_putAhead_16 rfl lS_X6_82 (ok_X6_entry rfl) rfl (by decide) rfl (Nat.le_of_ble_eq_true rfl) ?_
  show jv_V E 19 [some (.ref 17), some (.int p1), none, none] [.int (f_X6_entry σ (f_X3_headOf σ p1) (jv_rd (σ.1 23) 24 0 p1))] σ
  refine jv_istore_n (x := (f_X6_entry σ (f_X3_headOf σ p1) (jv_rd (σ.1 23) 24 0 p1))) (L' := [some (.ref 17), some (.int p1), some (.int (f_X6_entry σ (f_X3_headOf σ p1) (jv_rd (σ.1 23) 24 0 p1))), none]) (pc' := 20) hE dX6_putAhead_19 rfl 2 rfl (by decide) rfl rfl ?_
  refine jv_aload_n (x := 17) (pc' := 21) hE dX6_putAhead_20 rfl 0 rfl rfl ?_
  refine jv_get (v := .ref 1) (pc' := 24) hE dX6_putAhead_21 rfl lF_X6_30 rfl rfl rfl ?_
  refine jv_iload_n (x := p1) (pc' := 25) hE dX6_putAhead_24 rfl 1 rfl rfl ?_
  refine jv_callV (pc' := 28) (o := some (.int (f_X3_lengthOf σ p1))) (σ' := σ) hE dX6_putAhead_25 rfl lV_X6_79 (ok_X3_lengthOf rfl) rfl rfl rfl (by decide) rfl (Nat.le_of_ble_eq_true rfl) ?_
  show jv_V E 28 [some (.ref 17), some (.int p1), some (.int (f_X6_entry σ (f_X3_headOf σ p1) (jv_rd (σ.1 23) 24 0 p1))), none] [.int (f_X3_lengthOf σ p1)] σ
  refine jv_aload_n (x := 17) (pc' := 29) hE dX6_putAhead_28 rfl 0 rfl rfl ?_
  refine jv_get (v := .ref 18) (pc' := 32) hE dX6_putAhead_29 rfl lF_X6_11 rfl rfl rfl ?_
  refine jv_iload_n (x := (f_X6_entry σ (f_X3_headOf σ p1) (jv_rd (σ.1 23) 24 0 p1))) (pc' := 33) hE dX6_putAhead_32 rfl 2 rfl rfl ?_
  refine jv_callN (pc' := 36) (o := some (.int (jv_rd (σ.1 18) 500 0 (f_X6_entry σ (f_X3_headOf σ p1) (jv_rd (σ.1 23) 24 0 p1))))) (σ' := σ) hE dX6_putAhead_33 rfl lN_X6_51 (ok_X7_at (n := 500) (by decide) rfl rfl) rfl (by decide) rfl (Nat.le_of_ble_eq_true rfl) ?_
  show jv_V E 36 [some (.ref 17), some (.int p1), some (.int (f_X6_entry σ (f_X3_headOf σ p1) (jv_rd (σ.1 23) 24 0 p1))), none] [.int (jv_rd (σ.1 18) 500 0 (f_X6_entry σ (f_X3_headOf σ p1) (jv_rd (σ.1 23) 24 0 p1))), .int (f_X3_lengthOf σ p1)] σ
  refine jv_iadd (x := (f_X3_lengthOf σ p1)) (y := (jv_rd (σ.1 18) 500 0 (f_X6_entry σ (f_X3_headOf σ p1) (jv_rd (σ.1 23) 24 0 p1)))) (pc' := 37) hE dX6_putAhead_36 rfl ?_
  refine jv_istore_n (x := ((f_X3_lengthOf σ p1) + (jv_rd (σ.1 18) 500 0 (f_X6_entry σ (f_X3_headOf σ p1) (jv_rd (σ.1 23) 24 0 p1))))) (L' := [some (.ref 17), some (.int p1), some (.int (f_X6_entry σ (f_X3_headOf σ p1) (jv_rd (σ.1 23) 24 0 p1))), some (.int ((f_X3_lengthOf σ p1) + (jv_rd (σ.1 18) 500 0 (f_X6_entry σ (f_X3_headOf σ p1) (jv_rd (σ.1 23) 24 0 p1)))))]) (pc' := 38) hE dX6_putAhead_37 rfl 3 rfl (by decide) rfl rfl ?_
  refine jv_aload_n (x := 17) (pc' := 39) hE dX6_putAhead_38 rfl 0 rfl rfl ?_
  refine jv_get (v := .ref 23) (pc' := 42) hE dX6_putAhead_39 rfl lF_X6_27 rfl rfl rfl ?_
  refine jv_iload_n (x := p1) (pc' := 43) hE dX6_putAhead_42 rfl 1 rfl rfl ?_
  refine jv_aload_n (x := 17) (pc' := 44) hE dX6_putAhead_43 rfl 0 rfl rfl ?_
  refine jv_get (v := .ref 23) (pc' := 47) hE dX6_putAhead_44 rfl lF_X6_27 rfl rfl rfl ?_
  refine jv_iload_n (x := p1) (pc' := 48) hE dX6_putAhead_47 rfl 1 rfl rfl ?_
  refine jv_callN (pc' := 51) (o := some (.int (jv_rd (σ.1 23) 24 0 p1))) (σ' := σ) hE dX6_putAhead_48 rfl lN_X6_51 (ok_X7_at (n := 24) (by decide) rfl rfl) rfl (by decide) rfl (Nat.le_of_ble_eq_true rfl) ?_
  show jv_V E 51 [some (.ref 17), some (.int p1), some (.int (f_X6_entry σ (f_X3_headOf σ p1) (jv_rd (σ.1 23) 24 0 p1))), some (.int ((f_X3_lengthOf σ p1) + (jv_rd (σ.1 18) 500 0 (f_X6_entry σ (f_X3_headOf σ p1) (jv_rd (σ.1 23) 24 0 p1)))))] [.int (jv_rd (σ.1 23) 24 0 p1), .int p1, .ref 23] σ
  refine jv_iconst (v := (1 : Int32)) (pc' := 52) hE dX6_putAhead_51 rfl (by decide) ?_
  refine jv_iadd (x := (jv_rd (σ.1 23) 24 0 p1)) (y := (1 : Int32)) (pc' := 53) hE dX6_putAhead_52 rfl ?_
  refine jv_callN (pc' := 56) (o := none) (σ' := (jv_wr σ 23 24 p1 ((jv_rd (σ.1 23) 24 0 p1) + (1 : Int32)))) hE dX6_putAhead_53 rfl lN_X6_86 (ok_X7_put (n := 24) (by decide) rfl rfl) rfl (by decide) rfl (Nat.le_of_ble_eq_true rfl) ?_
  show jv_V E 56 [some (.ref 17), some (.int p1), some (.int (f_X6_entry σ (f_X3_headOf σ p1) (jv_rd (σ.1 23) 24 0 p1))), some (.int ((f_X3_lengthOf σ p1) + (jv_rd (σ.1 18) 500 0 (f_X6_entry σ (f_X3_headOf σ p1) (jv_rd (σ.1 23) 24 0 p1)))))] [] (jv_wr σ 23 24 p1 ((jv_rd (σ.1 23) 24 0 p1) + (1 : Int32)))
  refine jv_aload_n (x := 17) (pc' := 57) hE dX6_putAhead_56 rfl 0 rfl rfl ?_
  refine jv_aload_n (x := 17) (pc' := 58) hE dX6_putAhead_57 rfl 0 rfl rfl ?_
  refine jv_get (v := .ref 1) (pc' := 61) hE dX6_putAhead_58 rfl lF_X6_30 rfl rfl rfl ?_
  refine jv_iload_n (x := p1) (pc' := 62) hE dX6_putAhead_61 rfl 1 rfl rfl ?_
  refine jv_callV (pc' := 65) (o := some (.int (f_X3_tailOf (jv_wr σ 23 24 p1 ((jv_rd (σ.1 23) 24 0 p1) + (1 : Int32))) p1))) (σ' := (jv_wr σ 23 24 p1 ((jv_rd (σ.1 23) 24 0 p1) + (1 : Int32)))) hE dX6_putAhead_62 rfl lV_X6_76 (ok_X3_tailOf rfl) rfl rfl rfl (by decide) rfl (Nat.le_of_ble_eq_true rfl) ?_
  show jv_V E 65 [some (.ref 17), some (.int p1), some (.int (f_X6_entry σ (f_X3_headOf σ p1) (jv_rd (σ.1 23) 24 0 p1))), some (.int ((f_X3_lengthOf σ p1) + (jv_rd (σ.1 18) 500 0 (f_X6_entry σ (f_X3_headOf σ p1) (jv_rd (σ.1 23) 24 0 p1)))))] [.int (f_X3_tailOf (jv_wr σ 23 24 p1 ((jv_rd (σ.1 23) 24 0 p1) + (1 : Int32))) p1), .ref 17] (jv_wr σ 23 24 p1 ((jv_rd (σ.1 23) 24 0 p1) + (1 : Int32)))
  refine jv_iload_n (x := ((f_X3_lengthOf σ p1) + (jv_rd (σ.1 18) 500 0 (f_X6_entry σ (f_X3_headOf σ p1) (jv_rd (σ.1 23) 24 0 p1))))) (pc' := 66) hE dX6_putAhead_65 rfl 3 rfl rfl ?_
  refine jv_aload_n (x := 17) (pc' := 67) hE dX6_putAhead_66 rfl 0 rfl rfl ?_
  refine jv_get (v := .ref 19) (pc' := 70) hE dX6_putAhead_67 rfl lF_X6_15 rfl rfl rfl ?_
  refine jv_iload_n (x := (f_X6_entry σ (f_X3_headOf σ p1) (jv_rd (σ.1 23) 24 0 p1))) (pc' := 71) hE dX6_putAhead_70 rfl 2 rfl rfl ?_
  refine jv_callN (pc' := 74) (o := some (.int (jv_rd ((jv_wr σ 23 24 p1 ((jv_rd (σ.1 23) 24 0 p1) + (1 : Int32))).1 19) 500 0 (f_X6_entry σ (f_X3_headOf σ p1) (jv_rd (σ.1 23) 24 0 p1))))) (σ' := (jv_wr σ 23 24 p1 ((jv_rd (σ.1 23) 24 0 p1) + (1 : Int32)))) hE dX6_putAhead_71 rfl lN_X6_51 (ok_X7_at (n := 500) (by decide) rfl rfl) rfl (by decide) rfl (Nat.le_of_ble_eq_true rfl) ?_
  show jv_V E 74 [some (.ref 17), some (.int p1), some (.int (f_X6_entry σ (f_X3_headOf σ p1) (jv_rd (σ.1 23) 24 0 p1))), some (.int ((f_X3_lengthOf σ p1) + (jv_rd (σ.1 18) 500 0 (f_X6_entry σ (f_X3_headOf σ p1) (jv_rd (σ.1 23) 24 0 p1)))))] [.int (jv_rd ((jv_wr σ 23 24 p1 ((jv_rd (σ.1 23) 24 0 p1) + (1 : Int32))).1 19) 500 0 (f_X6_entry σ (f_X3_headOf σ p1) (jv_rd (σ.1 23) 24 0 p1))), .int ((f_X3_lengthOf σ p1) + (jv_rd (σ.1 18) 500 0 (f_X6_entry σ (f_X3_headOf σ p1) (jv_rd (σ.1 23) 24 0 p1)))), .int (f_X3_tailOf (jv_wr σ 23 24 p1 ((jv_rd (σ.1 23) 24 0 p1) + (1 : Int32))) p1), .ref 17] (jv_wr σ 23 24 p1 ((jv_rd (σ.1 23) 24 0 p1) + (1 : Int32)))
  refine jv_iconst (v := (1 : Int32)) (pc' := 75) hE dX6_putAhead_74 rfl (by decide) ?_
  refine jv_iadd (x := (jv_rd ((jv_wr σ 23 24 p1 ((jv_rd (σ.1 23) 24 0 p1) + (1 : Int32))).1 19) 500 0 (f_X6_entry σ (f_X3_headOf σ p1) (jv_rd (σ.1 23) 24 0 p1)))) (y := (1 : Int32)) (pc' := 76) hE dX6_putAhead_75 rfl ?_
  refine jv_iload_n (x := p1) (pc' := 77) hE dX6_putAhead_76 rfl 1 rfl rfl ?_
  refine jv_iload_n (x := (f_X6_entry σ (f_X3_headOf σ p1) (jv_rd (σ.1 23) 24 0 p1))) (pc' := 78) hE dX6_putAhead_77 rfl 2 rfl rfl ?_
  obtain ⟨q1, hq1, h⟩ := jv_lt_eq h
  refine jv_callV (pc' := 81) (o := none) (σ' := q1) hE dX6_putAhead_78 rfl lV_X6_47 (ok_X6_list hq1) rfl rfl rfl (by decide) rfl (Nat.le_of_ble_eq_true rfl) ?_
  show jv_V E 81 [some (.ref 17), some (.int p1), some (.int (f_X6_entry σ (f_X3_headOf σ p1) (jv_rd (σ.1 23) 24 0 p1))), some (.int ((f_X3_lengthOf σ p1) + (jv_rd (σ.1 18) 500 0 (f_X6_entry σ (f_X3_headOf σ p1) (jv_rd (σ.1 23) 24 0 p1)))))] [] q1
  cases h
  exact hret _ _ dX6_putAhead_81
noncomputable def f_X6_advance_lp2 : Nat → Int32 → jv_S → Option ((Bool × jv_S) ⊕ (Int32 × jv_S))
  | 0, _, _ => none
  | n + 1, v1, σ => if (500 : Int32) ≤ v1 then (some (.inr (v1, σ))) else (if (σ.1 17 8) < (jv_rd (σ.1 22) 10 0 (σ.1 17 7)) then (some (.inr (v1, σ))) else (jv_bd (f_X6_shortestEdge σ) (fun q3 => if q3 = (-1 : Int32) then (some (.inl ((false, σ)))) else (jv_lt (f_X6_putAhead σ q3) (fun q5 => f_X6_advance_lp2 n (v1 + (1 : Int32)) q5)))))
noncomputable def f_X6_advance (σ : jv_S) : Option (Bool × jv_S) := jv_bd (f_X6_advance_lp2 jv_fuel (0 : Int32) σ) (fun q6 => Sum.elim (fun q6 => some q6) (fun q6 => some (true, (jv_si q6.2 17 8 ((q6.2.1 17 8) + (1 : Int32))))) q6)
set_option maxRecDepth 100000 in
set_option maxHeartbeats 4000000 in
theorem lp_X6_advance_2 {E : jv_E} (hE : jv_Cx E RX6 cX6_advance 3 4) : ∀ (n : Nat) (v1 : Int32) (σ : jv_S) (r : (Bool × jv_S) ⊕ (Int32 × jv_S)), f_X6_advance_lp2 n v1 σ = some r → (∀ q, r = .inr q → jv_V E 50 [some (.ref 17), none, none] [] q.2) → (∀ q, r = .inl q → jv_Rt E cX6_advance (some (.int (jv_b q.1))) q.2) → jv_V E 2 [some (.ref 17), some (.int v1), none] [] σ := by
  intro n
  induction n with
  | zero =>
    intro v1 σ r h
    rw [f_X6_advance_lp2] at h
    cases h
  | succ n ih =>
    intro v1 σ r h hk hr
    rw [f_X6_advance_lp2] at h
    refine jv_iload_n (x := v1) (pc' := 3) hE dX6_advance_2 rfl 1 rfl rfl ?_
    refine jv_sipush (v := (500 : Int32)) (pc' := 6) hE dX6_advance_3 rfl (by decide) ?_
    refine jv_icmp_ge (x := v1) (y := (500 : Int32)) (tgt := 50) (pc' := 9) hE dX6_advance_6 (by decide) rfl (fun c1 => ?_) (fun c1 => ?_)
    · rw [if_pos c1] at h
      cases h
      exact jv_forget [true, false, true] (hk (v1, σ) rfl)
    · rw [if_neg c1] at h
      refine jv_aload_n (x := 17) (pc' := 10) hE dX6_advance_9 rfl 0 rfl rfl ?_
      refine jv_get (v := .ref 22) (pc' := 13) hE dX6_advance_10 rfl lF_X6_24 rfl rfl rfl ?_
      refine jv_aload_n (x := 17) (pc' := 14) hE dX6_advance_13 rfl 0 rfl rfl ?_
      refine jv_get (v := .int (σ.1 17 7)) (pc' := 17) hE dX6_advance_14 rfl lF_X6_34 rfl rfl rfl ?_
      refine jv_callN (pc' := 20) (o := some (.int (jv_rd (σ.1 22) 10 0 (σ.1 17 7)))) (σ' := σ) hE dX6_advance_17 rfl lN_X6_51 (ok_X7_at (n := 10) (by decide) rfl rfl) rfl (by decide) rfl (Nat.le_of_ble_eq_true rfl) ?_
      show jv_V E 20 [some (.ref 17), some (.int v1), none] [.int (jv_rd (σ.1 22) 10 0 (σ.1 17 7))] σ
      refine jv_aload_n (x := 17) (pc' := 21) hE dX6_advance_20 rfl 0 rfl rfl ?_
      refine jv_get (v := .int (σ.1 17 8)) (pc' := 24) hE dX6_advance_21 rfl lF_X6_38 rfl rfl rfl ?_
      refine jv_icmp_gt (x := (jv_rd (σ.1 22) 10 0 (σ.1 17 7))) (y := (σ.1 17 8)) (tgt := 50) (pc' := 27) hE dX6_advance_24 (by decide) rfl (fun c2 => ?_) (fun c2 => ?_)
      · rw [if_pos c2] at h
        cases h
        exact jv_forget [true, false, true] (hk (v1, σ) rfl)
      · rw [if_neg c2] at h
        refine jv_aload_n (x := 17) (pc' := 28) hE dX6_advance_27 rfl 0 rfl rfl ?_
        obtain ⟨q3, hq3, h⟩ := jv_bd_some h
        refine jv_callV (pc' := 31) (o := some (.int q3)) (σ' := σ) hE dX6_advance_28 rfl lV_X6_55 (ok_X6_shortestEdge hq3) rfl rfl rfl (by decide) rfl (Nat.le_of_ble_eq_true rfl) ?_
        show jv_V E 31 [some (.ref 17), some (.int v1), none] [.int q3] σ
        refine jv_istore_n (x := q3) (L' := [some (.ref 17), some (.int v1), some (.int q3)]) (pc' := 32) hE dX6_advance_31 rfl 2 rfl (by decide) rfl rfl ?_
        refine jv_iload_n (x := q3) (pc' := 33) hE dX6_advance_32 rfl 2 rfl rfl ?_
        refine jv_iconst (v := (-1 : Int32)) (pc' := 34) hE dX6_advance_33 rfl (by decide) ?_
        refine jv_icmp_ne (x := q3) (y := (-1 : Int32)) (tgt := 39) (pc' := 37) hE dX6_advance_34 (by decide) rfl (fun c4 => ?_) (fun c4 => ?_)
        · rw [if_neg c4] at h
          refine jv_aload_n (x := 17) (pc' := 40) hE dX6_advance_39 rfl 0 rfl rfl ?_
          refine jv_iload_n (x := q3) (pc' := 41) hE dX6_advance_40 rfl 2 rfl rfl ?_
          obtain ⟨q5, hq5, h⟩ := jv_lt_eq h
          refine jv_callV (pc' := 44) (o := none) (σ' := q5) hE dX6_advance_41 rfl lV_X6_59 (ok_X6_putAhead hq5) rfl rfl rfl (by decide) rfl (Nat.le_of_ble_eq_true rfl) ?_
          show jv_V E 44 [some (.ref 17), some (.int v1), some (.int q3)] [] q5
          refine jv_iinc (x := v1) (v := (v1 + (1 : Int32))) (L' := [some (.ref 17), some (.int (v1 + (1 : Int32))), some (.int q3)]) (pc' := 47) hE dX6_advance_44 rfl rfl rfl (by decide) rfl rfl ?_
          refine jv_goto (tgt := 2) hE dX6_advance_47 (by decide) ?_
          exact jv_forget [true, true, false] (ih (v1 + (1 : Int32)) q5 _ h hk hr)
        · rw [if_pos c4] at h
          refine jv_iconst (v := (0 : Int32)) (pc' := 38) hE dX6_advance_37 rfl (by decide) ?_
          cases h
          exact hr ((false, σ)) rfl _ _ dX6_advance_38
set_option maxRecDepth 100000 in
set_option maxHeartbeats 4000000 in
theorem ok_X6_advance {G : jv_G} {l : Launch} {σ : jv_S} {r : Bool × jv_S} (h : f_X6_advance σ = some r) : jv_Cn G l 4 M_X6_advance [.ref 17] σ (some (.int (jv_b r.1))) r.2 := by
  refine jv_of (L0 := [some (.ref 17), none, none]) (by decide +kernel) (Nat.le_of_ble_eq_true rfl) rfl (jv_okZ _) (fun E e1 e2 hE hret => ?_)
  unfold f_X6_advance at h
  refine jv_iconst (v := (0 : Int32)) (pc' := 1) hE dX6_advance_0 rfl (by decide) ?_
  refine jv_istore_n (x := (0 : Int32)) (L' := [some (.ref 17), some (.int (0 : Int32)), none]) (pc' := 2) hE dX6_advance_1 rfl 1 rfl (by decide) rfl rfl ?_
  obtain ⟨q6, hq6, h⟩ := jv_bd_some h
  refine jv_forget [true, true, true] (lp_X6_advance_2 hE jv_fuel (0 : Int32) σ _ hq6 (fun z hz => ?_) (fun z hz => ?_))
  · subst hz
    simp only [Sum.elim_inr] at h
    refine jv_aload_n (x := 17) (pc' := 51) hE dX6_advance_50 rfl 0 rfl rfl ?_
    refine jv_dup (pc' := 52) hE dX6_advance_51 rfl rfl ?_
    refine jv_get (v := .int (z.2.1 17 8)) (pc' := 55) hE dX6_advance_52 rfl lF_X6_38 rfl rfl rfl ?_
    refine jv_iconst (v := (1 : Int32)) (pc' := 56) hE dX6_advance_55 rfl (by decide) ?_
    refine jv_iadd (x := (z.2.1 17 8)) (y := (1 : Int32)) (pc' := 57) hE dX6_advance_56 rfl ?_
    refine jv_puti (x := ((z.2.1 17 8) + (1 : Int32))) (pc' := 60) hE dX6_advance_57 rfl lP_X6_38 rfl rfl rfl rfl ?_
    refine jv_iconst (v := (1 : Int32)) (pc' := 61) hE dX6_advance_60 rfl (by decide) ?_
    cases h
    exact hret _ _ dX6_advance_61
  · subst hz
    simp only [Sum.elim_inl] at h
    cases h
    exact hret
noncomputable def f_X6_currentEntry (σ : jv_S) : Int32 := (f_X6_entry σ (σ.1 17 7) ((σ.1 17 8) - (1 : Int32)))
set_option maxRecDepth 100000 in
set_option maxHeartbeats 4000000 in
theorem ok_X6_currentEntry {G : jv_G} {l : Launch} {σ : jv_S} {r : Int32} (h : f_X6_currentEntry σ = r) : jv_Cn G l 2 M_X6_currentEntry [.ref 17] σ (some (.int r)) σ := by
  refine jv_of (L0 := [some (.ref 17)]) (by decide +kernel) (Nat.le_of_ble_eq_true rfl) rfl (jv_okI _) (fun E e1 e2 hE hret => ?_)
  unfold f_X6_currentEntry at h
  refine jv_aload_n (x := 17) (pc' := 1) hE dX6_currentEntry_0 rfl 0 rfl rfl ?_
  refine jv_get (v := .int (σ.1 17 7)) (pc' := 4) hE dX6_currentEntry_1 rfl lF_X6_34 rfl rfl rfl ?_
  refine jv_aload_n (x := 17) (pc' := 5) hE dX6_currentEntry_4 rfl 0 rfl rfl ?_
  refine jv_get (v := .int (σ.1 17 8)) (pc' := 8) hE dX6_currentEntry_5 rfl lF_X6_38 rfl rfl rfl ?_
  refine jv_iconst (v := (1 : Int32)) (pc' := 9) hE dX6_currentEntry_8 rfl (by decide) ?_
  refine jv_isub (x := (σ.1 17 8)) (y := (1 : Int32)) (pc' := 10) hE dX6_currentEntry_9 rfl ?_
  refine jv_callS (pc' := 13) (o := some (.int (f_X6_entry σ (σ.1 17 7) ((σ.1 17 8) - (1 : Int32))))) (σ' := σ) hE dX6_currentEntry_10 rfl lS_X6_82 (ok_X6_entry rfl) rfl (by decide) rfl (Nat.le_of_ble_eq_true rfl) ?_
  show jv_V E 13 [some (.ref 17)] [.int (f_X6_entry σ (σ.1 17 7) ((σ.1 17 8) - (1 : Int32)))] σ
  cases h
  exact hret _ _ dX6_currentEntry_13
noncomputable def f_X6_currentLength (σ : jv_S) : Int32 := (jv_rd (σ.1 18) 500 0 (f_X6_currentEntry σ))
set_option maxRecDepth 100000 in
set_option maxHeartbeats 4000000 in
theorem ok_X6_currentLength {G : jv_G} {l : Launch} {σ : jv_S} {r : Int32} (h : f_X6_currentLength σ = r) : jv_Cn G l 3 M_X6_currentLength [.ref 17] σ (some (.int r)) σ := by
  refine jv_of (L0 := [some (.ref 17)]) (by decide +kernel) (Nat.le_of_ble_eq_true rfl) rfl (jv_okI _) (fun E e1 e2 hE hret => ?_)
  unfold f_X6_currentLength at h
  refine jv_aload_n (x := 17) (pc' := 1) hE dX6_currentLength_0 rfl 0 rfl rfl ?_
  refine jv_get (v := .ref 18) (pc' := 4) hE dX6_currentLength_1 rfl lF_X6_11 rfl rfl rfl ?_
  refine jv_aload_n (x := 17) (pc' := 5) hE dX6_currentLength_4 rfl 0 rfl rfl ?_
  refine jv_callV (pc' := 8) (o := some (.int (f_X6_currentEntry σ))) (σ' := σ) hE dX6_currentLength_5 rfl lV_X6_90 (ok_X6_currentEntry rfl) rfl rfl rfl (by decide) rfl (Nat.le_of_ble_eq_true rfl) ?_
  show jv_V E 8 [some (.ref 17)] [.int (f_X6_currentEntry σ), .ref 18] σ
  refine jv_callN (pc' := 11) (o := some (.int (jv_rd (σ.1 18) 500 0 (f_X6_currentEntry σ)))) (σ' := σ) hE dX6_currentLength_8 rfl lN_X6_51 (ok_X7_at (n := 500) (by decide) rfl rfl) rfl (by decide) rfl (Nat.le_of_ble_eq_true rfl) ?_
  show jv_V E 11 [some (.ref 17)] [.int (jv_rd (σ.1 18) 500 0 (f_X6_currentEntry σ))] σ
  cases h
  exact hret _ _ dX6_currentLength_11
noncomputable def f_X6_currentSize (σ : jv_S) : Int32 := (jv_rd (σ.1 19) 500 0 (f_X6_currentEntry σ))
set_option maxRecDepth 100000 in
set_option maxHeartbeats 4000000 in
theorem ok_X6_currentSize {G : jv_G} {l : Launch} {σ : jv_S} {r : Int32} (h : f_X6_currentSize σ = r) : jv_Cn G l 3 M_X6_currentSize [.ref 17] σ (some (.int r)) σ := by
  refine jv_of (L0 := [some (.ref 17)]) (by decide +kernel) (Nat.le_of_ble_eq_true rfl) rfl (jv_okI _) (fun E e1 e2 hE hret => ?_)
  unfold f_X6_currentSize at h
  refine jv_aload_n (x := 17) (pc' := 1) hE dX6_currentSize_0 rfl 0 rfl rfl ?_
  refine jv_get (v := .ref 19) (pc' := 4) hE dX6_currentSize_1 rfl lF_X6_15 rfl rfl rfl ?_
  refine jv_aload_n (x := 17) (pc' := 5) hE dX6_currentSize_4 rfl 0 rfl rfl ?_
  refine jv_callV (pc' := 8) (o := some (.int (f_X6_currentEntry σ))) (σ' := σ) hE dX6_currentSize_5 rfl lV_X6_90 (ok_X6_currentEntry rfl) rfl rfl rfl (by decide) rfl (Nat.le_of_ble_eq_true rfl) ?_
  show jv_V E 8 [some (.ref 17)] [.int (f_X6_currentEntry σ), .ref 19] σ
  refine jv_callN (pc' := 11) (o := some (.int (jv_rd (σ.1 19) 500 0 (f_X6_currentEntry σ)))) (σ' := σ) hE dX6_currentSize_8 rfl lN_X6_51 (ok_X7_at (n := 500) (by decide) rfl rfl) rfl (by decide) rfl (Nat.le_of_ble_eq_true rfl) ?_
  show jv_V E 11 [some (.ref 17)] [.int (jv_rd (σ.1 19) 500 0 (f_X6_currentEntry σ))] σ
  cases h
  exact hret _ _ dX6_currentSize_11
noncomputable def f_X6_currentEdge_lp21 (a1 : Int32) : Nat → Int32 → Int32 → jv_S → Option (Int32 × Int32)
  | 0, _, _, _ => none
  | n + 1, v2, v3, σ => if a1 ≤ v3 then (some (v2, v3)) else (f_X6_currentEdge_lp21 a1 n (jv_rd (σ.1 21) 500 0 v2) (v3 + (1 : Int32)) σ)
noncomputable def f_X6_currentEdge (σ : jv_S) (p1 : Int32) : Option (Int32) := if p1 < 0 then (some (-1 : Int32)) else (if p1 < (f_X6_currentSize σ) then (jv_bd (f_X6_currentEdge_lp21 p1 jv_fuel (f_X6_currentEntry σ) (0 : Int32) σ) (fun q4 => some (jv_rd (σ.1 20) 500 0 q4.1))) else (some (-1 : Int32)))
set_option maxRecDepth 100000 in
set_option maxHeartbeats 4000000 in
theorem lp_X6_currentEdge_21 {σ : jv_S} {a1 : Int32} {E : jv_E} (hE : jv_Cx E RX6 cX6_currentEdge 4 4) : ∀ (n : Nat) (v2 : Int32) (v3 : Int32)  (q : Int32 × Int32), f_X6_currentEdge_lp21 a1 n v2 v3 σ = some q → (jv_V E 41 [some (.ref 17), none, some (.int q.1), none] [] σ) → jv_V E 21 [some (.ref 17), some (.int a1), some (.int v2), some (.int v3)] [] σ := by
  intro n
  induction n with
  | zero =>
    intro v2 v3 q h
    rw [f_X6_currentEdge_lp21] at h
    cases h
  | succ n ih =>
    intro v2 v3 q h hk
    rw [f_X6_currentEdge_lp21] at h
    refine jv_iload_n (x := v3) (pc' := 22) hE dX6_currentEdge_21 rfl 3 rfl rfl ?_
    refine jv_iload_n (x := a1) (pc' := 23) hE dX6_currentEdge_22 rfl 1 rfl rfl ?_
    refine jv_icmp_ge (x := v3) (y := a1) (tgt := 41) (pc' := 26) hE dX6_currentEdge_23 (by decide) rfl (fun c3 => ?_) (fun c3 => ?_)
    · rw [if_pos c3] at h
      cases h
      exact jv_forget [true, false, true, false] hk
    · rw [if_neg c3] at h
      refine jv_aload_n (x := 17) (pc' := 27) hE dX6_currentEdge_26 rfl 0 rfl rfl ?_
      refine jv_get (v := .ref 21) (pc' := 30) hE dX6_currentEdge_27 rfl lF_X6_21 rfl rfl rfl ?_
      refine jv_iload_n (x := v2) (pc' := 31) hE dX6_currentEdge_30 rfl 2 rfl rfl ?_
      refine jv_callN (pc' := 34) (o := some (.int (jv_rd (σ.1 21) 500 0 v2))) (σ' := σ) hE dX6_currentEdge_31 rfl lN_X6_51 (ok_X7_at (n := 500) (by decide) rfl rfl) rfl (by decide) rfl (Nat.le_of_ble_eq_true rfl) ?_
      show jv_V E 34 [some (.ref 17), some (.int a1), some (.int v2), some (.int v3)] [.int (jv_rd (σ.1 21) 500 0 v2)] σ
      refine jv_istore_n (x := (jv_rd (σ.1 21) 500 0 v2)) (L' := [some (.ref 17), some (.int a1), some (.int (jv_rd (σ.1 21) 500 0 v2)), some (.int v3)]) (pc' := 35) hE dX6_currentEdge_34 rfl 2 rfl (by decide) rfl rfl ?_
      refine jv_iinc (x := v3) (v := (v3 + (1 : Int32))) (L' := [some (.ref 17), some (.int a1), some (.int (jv_rd (σ.1 21) 500 0 v2)), some (.int (v3 + (1 : Int32)))]) (pc' := 38) hE dX6_currentEdge_35 rfl rfl rfl (by decide) rfl rfl ?_
      refine jv_goto (tgt := 21) hE dX6_currentEdge_38 (by decide) ?_
      exact jv_forget [true, true, true, true] (ih (jv_rd (σ.1 21) 500 0 v2) (v3 + (1 : Int32)) _ h hk)
set_option maxRecDepth 100000 in
set_option maxHeartbeats 4000000 in
theorem ok_X6_currentEdge {G : jv_G} {l : Launch} {σ : jv_S} {p1 : Int32} {r : Int32} (h : f_X6_currentEdge σ p1 = some r) : jv_Cn G l 4 M_X6_currentEdge [.ref 17, .int p1] σ (some (.int r)) σ := by
  refine jv_of (L0 := [some (.ref 17), some (.int p1), none, none]) (by decide +kernel) (Nat.le_of_ble_eq_true rfl) rfl (jv_okI _) (fun E e1 e2 hE hret => ?_)
  unfold f_X6_currentEdge at h
  refine jv_iload_n (x := p1) (pc' := 1) hE dX6_currentEdge_0 rfl 1 rfl rfl ?_
  refine jv_if_lt (x := p1) (tgt := 12) (pc' := 4) hE dX6_currentEdge_1 (by decide) rfl (fun c1 => ?_) (fun c1 => ?_)
  · rw [if_pos c1] at h
    refine jv_iconst (v := (-1 : Int32)) (pc' := 13) hE dX6_currentEdge_12 rfl (by decide) ?_
    cases h
    exact hret _ _ dX6_currentEdge_13
  · rw [if_neg c1] at h
    refine jv_iload_n (x := p1) (pc' := 5) hE dX6_currentEdge_4 rfl 1 rfl rfl ?_
    refine jv_aload_n (x := 17) (pc' := 6) hE dX6_currentEdge_5 rfl 0 rfl rfl ?_
    refine jv_callV (pc' := 9) (o := some (.int (f_X6_currentSize σ))) (σ' := σ) hE dX6_currentEdge_6 rfl lV_X6_93 (ok_X6_currentSize rfl) rfl rfl rfl (by decide) rfl (Nat.le_of_ble_eq_true rfl) ?_
    show jv_V E 9 [some (.ref 17), some (.int p1), none, none] [.int (f_X6_currentSize σ), .int p1] σ
    refine jv_icmp_lt (x := p1) (y := (f_X6_currentSize σ)) (tgt := 14) (pc' := 12) hE dX6_currentEdge_9 (by decide) rfl (fun c2 => ?_) (fun c2 => ?_)
    · rw [if_pos c2] at h
      refine jv_aload_n (x := 17) (pc' := 15) hE dX6_currentEdge_14 rfl 0 rfl rfl ?_
      refine jv_callV (pc' := 18) (o := some (.int (f_X6_currentEntry σ))) (σ' := σ) hE dX6_currentEdge_15 rfl lV_X6_90 (ok_X6_currentEntry rfl) rfl rfl rfl (by decide) rfl (Nat.le_of_ble_eq_true rfl) ?_
      show jv_V E 18 [some (.ref 17), some (.int p1), none, none] [.int (f_X6_currentEntry σ)] σ
      refine jv_istore_n (x := (f_X6_currentEntry σ)) (L' := [some (.ref 17), some (.int p1), some (.int (f_X6_currentEntry σ)), none]) (pc' := 19) hE dX6_currentEdge_18 rfl 2 rfl (by decide) rfl rfl ?_
      refine jv_iconst (v := (0 : Int32)) (pc' := 20) hE dX6_currentEdge_19 rfl (by decide) ?_
      refine jv_istore_n (x := (0 : Int32)) (L' := [some (.ref 17), some (.int p1), some (.int (f_X6_currentEntry σ)), some (.int (0 : Int32))]) (pc' := 21) hE dX6_currentEdge_20 rfl 3 rfl (by decide) rfl rfl ?_
      obtain ⟨q4, hq4, h⟩ := jv_bd_some h
      refine jv_forget [true, true, true, true] (lp_X6_currentEdge_21 hE jv_fuel (f_X6_currentEntry σ) (0 : Int32) _ hq4 ?_)
      refine jv_aload_n (x := 17) (pc' := 42) hE dX6_currentEdge_41 rfl 0 rfl rfl ?_
      refine jv_get (v := .ref 20) (pc' := 45) hE dX6_currentEdge_42 rfl lF_X6_18 rfl rfl rfl ?_
      refine jv_iload_n (x := q4.1) (pc' := 46) hE dX6_currentEdge_45 rfl 2 rfl rfl ?_
      refine jv_callN (pc' := 49) (o := some (.int (jv_rd (σ.1 20) 500 0 q4.1))) (σ' := σ) hE dX6_currentEdge_46 rfl lN_X6_51 (ok_X7_at (n := 500) (by decide) rfl rfl) rfl (by decide) rfl (Nat.le_of_ble_eq_true rfl) ?_
      show jv_V E 49 [some (.ref 17), none, some (.int q4.1), none] [.int (jv_rd (σ.1 20) 500 0 q4.1)] σ
      cases h
      exact hret _ _ dX6_currentEdge_49
    · rw [if_neg c2] at h
      refine jv_iconst (v := (-1 : Int32)) (pc' := 13) hE dX6_currentEdge_12 rfl (by decide) ?_
      cases h
      exact hret _ _ dX6_currentEdge_13
end
