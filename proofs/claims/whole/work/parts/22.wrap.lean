def M_L_begin : jv_M := (yL_begin, cL_begin, 3, some .int)
theorem lK_L_98 : jv_MW RL 98 M_L_begin [(0, 5, 8, 13)] 2 := ⟨jv_w (jv_tb 279 (by decide +kernel)) rfl, jv_w (jv_tb 0 (by decide +kernel)) rfl, by decide +kernel, by decide, jv_w (jv_tb 277 (by decide +kernel)) rfl, jv_w (jv_tb 278 (by decide +kernel)) rfl⟩
def M_L_addEdge : jv_M := (yL_addEdge, cL_addEdge, 6, some .int)
theorem lK_L_107 : jv_MW RL 107 M_L_addEdge [(0, 12, 15, 13), (0, 12, 19, 19)] 5 := ⟨jv_w (jv_tb 391 (by decide +kernel)) rfl, jv_w (jv_tb 0 (by decide +kernel)) rfl, by decide +kernel, by decide, jv_w (jv_tb 389 (by decide +kernel)) rfl, jv_w (jv_tb 390 (by decide +kernel)) rfl⟩
def M_L_setLength : jv_M := (yL_setLength, cL_setLength, 5, some .int)
theorem lK_L_111 : jv_MW RL 111 M_L_setLength [(0, 10, 13, 13)] 4 := ⟨jv_w (jv_tb 437 (by decide +kernel)) rfl, jv_w (jv_tb 0 (by decide +kernel)) rfl, by decide +kernel, by decide, jv_w (jv_tb 435 (by decide +kernel)) rfl, jv_w (jv_tb 436 (by decide +kernel)) rfl⟩
def M_L_toggleEdge : jv_M := (yL_toggleEdge, cL_toggleEdge, 4, some .int)
theorem lK_L_115 : jv_MW RL 115 M_L_toggleEdge [(0, 16, 19, 13)] 3 := ⟨jv_w (jv_tb 461 (by decide +kernel)) rfl, jv_w (jv_tb 0 (by decide +kernel)) rfl, by decide +kernel, by decide, jv_w (jv_tb 459 (by decide +kernel)) rfl, jv_w (jv_tb 460 (by decide +kernel)) rfl⟩
def M_L_toggleNode : jv_M := (yL_toggleNode, cL_toggleNode, 4, some .int)
theorem lK_L_119 : jv_MW RL 119 M_L_toggleNode [(0, 16, 19, 13)] 3 := ⟨jv_w (jv_tb 472 (by decide +kernel)) rfl, jv_w (jv_tb 0 (by decide +kernel)) rfl, by decide +kernel, by decide, jv_w (jv_tb 470 (by decide +kernel)) rfl, jv_w (jv_tb 471 (by decide +kernel)) rfl⟩
def M_L_toggleTurn : jv_M := (yL_toggleTurn, cL_toggleTurn, 5, some .int)
theorem lK_L_122 : jv_MW RL 122 M_L_toggleTurn [(0, 17, 20, 13)] 4 := ⟨jv_w (jv_tb 483 (by decide +kernel)) rfl, jv_w (jv_tb 0 (by decide +kernel)) rfl, by decide +kernel, by decide, jv_w (jv_tb 481 (by decide +kernel)) rfl, jv_w (jv_tb 482 (by decide +kernel)) rfl⟩
def M_L_distance : jv_M := (yL_distance, cL_distance, 5, some .int)
theorem lK_L_137 : jv_MW RL 137 M_L_distance [(0, 10, 13, 13), (0, 10, 17, 39)] 4 := ⟨jv_w (jv_tb 501 (by decide +kernel)) rfl, jv_w (jv_tb 0 (by decide +kernel)) rfl, by decide +kernel, by decide, jv_w (jv_tb 499 (by decide +kernel)) rfl, jv_w (jv_tb 500 (by decide +kernel)) rfl⟩
def M_L_startPaths : jv_M := (yL_startPaths, cL_startPaths, 4, some .int)
theorem lK_L_140 : jv_MW RL 140 M_L_startPaths [(0, 6, 9, 13)] 3 := ⟨jv_w (jv_tb 554 (by decide +kernel)) rfl, jv_w (jv_tb 0 (by decide +kernel)) rfl, by decide +kernel, by decide, jv_w (jv_tb 552 (by decide +kernel)) rfl, jv_w (jv_tb 553 (by decide +kernel)) rfl⟩
def M_L_nextPath : jv_M := (yL_nextPath, cL_nextPath, 3, some .int)
theorem lK_L_144 : jv_MW RL 144 M_L_nextPath [(0, 8, 11, 19), (0, 8, 14, 39)] 2 := ⟨jv_w (jv_tb 565 (by decide +kernel)) rfl, jv_w (jv_tb 0 (by decide +kernel)) rfl, by decide +kernel, by decide, jv_w (jv_tb 563 (by decide +kernel)) rfl, jv_w (jv_tb 564 (by decide +kernel)) rfl⟩
def M_L_pathsDrawn : jv_M := (yL_pathsDrawn, cL_pathsDrawn, 3, some .int)
theorem lK_L_148 : jv_MW RL 148 M_L_pathsDrawn [(0, 8, 11, 19)] 2 := ⟨jv_w (jv_tb 634 (by decide +kernel)) rfl, jv_w (jv_tb 0 (by decide +kernel)) rfl, by decide +kernel, by decide, jv_w (jv_tb 632 (by decide +kernel)) rfl, jv_w (jv_tb 633 (by decide +kernel)) rfl⟩
def M_L_pathEdges : jv_M := (yL_pathEdges, cL_pathEdges, 3, some .int)
theorem lK_L_151 : jv_MW RL 151 M_L_pathEdges [(0, 8, 11, 19), (0, 8, 14, 39)] 2 := ⟨jv_w (jv_tb 645 (by decide +kernel)) rfl, jv_w (jv_tb 0 (by decide +kernel)) rfl, by decide +kernel, by decide, jv_w (jv_tb 643 (by decide +kernel)) rfl, jv_w (jv_tb 644 (by decide +kernel)) rfl⟩
def M_L_pathEdge : jv_M := (yL_pathEdge, cL_pathEdge, 4, some .int)
theorem lK_L_154 : jv_MW RL 154 M_L_pathEdge [(0, 9, 12, 19), (0, 9, 15, 39)] 3 := ⟨jv_w (jv_tb 665 (by decide +kernel)) rfl, jv_w (jv_tb 0 (by decide +kernel)) rfl, by decide +kernel, by decide, jv_w (jv_tb 663 (by decide +kernel)) rfl, jv_w (jv_tb 664 (by decide +kernel)) rfl⟩
def M_L_countPaths : jv_M := (yL_countPaths, cL_countPaths, 6, some .int)
theorem lK_L_157 : jv_MW RL 157 M_L_countPaths [(0, 12, 15, 13)] 5 := ⟨jv_w (jv_tb 677 (by decide +kernel)) rfl, jv_w (jv_tb 0 (by decide +kernel)) rfl, by decide +kernel, by decide, jv_w (jv_tb 675 (by decide +kernel)) rfl, jv_w (jv_tb 676 (by decide +kernel)) rfl⟩
def M_L_startWalks : jv_M := (yL_startWalks, cL_startWalks, 4, some .int)
theorem lK_L_160 : jv_MW RL 160 M_L_startWalks [(0, 6, 9, 13)] 3 := ⟨jv_w (jv_tb 700 (by decide +kernel)) rfl, jv_w (jv_tb 0 (by decide +kernel)) rfl, by decide +kernel, by decide, jv_w (jv_tb 698 (by decide +kernel)) rfl, jv_w (jv_tb 699 (by decide +kernel)) rfl⟩
def M_L_nextWalk : jv_M := (yL_nextWalk, cL_nextWalk, 3, some .int)
theorem lK_L_163 : jv_MW RL 163 M_L_nextWalk [(0, 8, 11, 19), (0, 8, 14, 39)] 2 := ⟨jv_w (jv_tb 721 (by decide +kernel)) rfl, jv_w (jv_tb 0 (by decide +kernel)) rfl, by decide +kernel, by decide, jv_w (jv_tb 719 (by decide +kernel)) rfl, jv_w (jv_tb 720 (by decide +kernel)) rfl⟩
def M_L_walksDrawn : jv_M := (yL_walksDrawn, cL_walksDrawn, 3, some .int)
theorem lK_L_166 : jv_MW RL 166 M_L_walksDrawn [(0, 8, 11, 19)] 2 := ⟨jv_w (jv_tb 760 (by decide +kernel)) rfl, jv_w (jv_tb 0 (by decide +kernel)) rfl, by decide +kernel, by decide, jv_w (jv_tb 758 (by decide +kernel)) rfl, jv_w (jv_tb 759 (by decide +kernel)) rfl⟩
def M_L_walkEdges : jv_M := (yL_walkEdges, cL_walkEdges, 3, some .int)
theorem lK_L_169 : jv_MW RL 169 M_L_walkEdges [(0, 8, 11, 19), (0, 8, 14, 39)] 2 := ⟨jv_w (jv_tb 767 (by decide +kernel)) rfl, jv_w (jv_tb 0 (by decide +kernel)) rfl, by decide +kernel, by decide, jv_w (jv_tb 765 (by decide +kernel)) rfl, jv_w (jv_tb 766 (by decide +kernel)) rfl⟩
def M_L_walkEdge : jv_M := (yL_walkEdge, cL_walkEdge, 4, some .int)
theorem lK_L_172 : jv_MW RL 172 M_L_walkEdge [(0, 9, 12, 19), (0, 9, 15, 39)] 3 := ⟨jv_w (jv_tb 778 (by decide +kernel)) rfl, jv_w (jv_tb 0 (by decide +kernel)) rfl, by decide +kernel, by decide, jv_w (jv_tb 776 (by decide +kernel)) rfl, jv_w (jv_tb 777 (by decide +kernel)) rfl⟩
def M_L_disjointPaths : jv_M := (yL_disjointPaths, cL_disjointPaths, 6, some .int)
theorem lK_L_175 : jv_MW RL 175 M_L_disjointPaths [(0, 12, 15, 13)] 5 := ⟨jv_w (jv_tb 790 (by decide +kernel)) rfl, jv_w (jv_tb 0 (by decide +kernel)) rfl, by decide +kernel, by decide, jv_w (jv_tb 788 (by decide +kernel)) rfl, jv_w (jv_tb 789 (by decide +kernel)) rfl⟩
def M_L_disjointLength : jv_M := (yL_disjointLength, cL_disjointLength, 7, some .int)
theorem lK_L_179 : jv_MW RL 179 M_L_disjointLength [(0, 14, 17, 13), (0, 14, 21, 39)] 6 := ⟨jv_w (jv_tb 840 (by decide +kernel)) rfl, jv_w (jv_tb 0 (by decide +kernel)) rfl, by decide +kernel, by decide, jv_w (jv_tb 838 (by decide +kernel)) rfl, jv_w (jv_tb 839 (by decide +kernel)) rfl⟩
def M_L_allowedLength : jv_M := (yL_allowedLength, cL_allowedLength, 5, some .int)
theorem lK_L_183 : jv_MW RL 183 M_L_allowedLength [(0, 10, 13, 13), (0, 10, 17, 39)] 4 := ⟨jv_w (jv_tb 851 (by decide +kernel)) rfl, jv_w (jv_tb 0 (by decide +kernel)) rfl, by decide +kernel, by decide, jv_w (jv_tb 849 (by decide +kernel)) rfl, jv_w (jv_tb 850 (by decide +kernel)) rfl⟩
def M_L_allowedEdges : jv_M := (yL_allowedEdges, cL_allowedEdges, 5, some .int)
theorem lK_L_186 : jv_MW RL 186 M_L_allowedEdges [(0, 10, 13, 13), (0, 10, 17, 39)] 4 := ⟨jv_w (jv_tb 889 (by decide +kernel)) rfl, jv_w (jv_tb 0 (by decide +kernel)) rfl, by decide +kernel, by decide, jv_w (jv_tb 887 (by decide +kernel)) rfl, jv_w (jv_tb 888 (by decide +kernel)) rfl⟩
def M_L_allowedEdge : jv_M := (yL_allowedEdge, cL_allowedEdge, 6, some .int)
theorem lK_L_189 : jv_MW RL 189 M_L_allowedEdge [(0, 12, 15, 13), (0, 12, 19, 39)] 5 := ⟨jv_w (jv_tb 900 (by decide +kernel)) rfl, jv_w (jv_tb 0 (by decide +kernel)) rfl, by decide +kernel, by decide, jv_w (jv_tb 898 (by decide +kernel)) rfl, jv_w (jv_tb 899 (by decide +kernel)) rfl⟩
noncomputable def f_L_begin (σ : jv_S) (p1 : Int32) : Option (Int32 × jv_S) := jv_bd (f_X7_begin σ p1) (fun q => (fun (q1 : Except String Unit) (q2 : jv_S) => jv_xe q1 (fun e => if e = "java/lang/IllegalArgumentException" then some ((1 : Int32), q2) else (none)) (fun v => some ((0 : Int32), q2))) q.1 q.2)
theorem lCa_L_begin_0 : jv_Ca [(0, 5, 8, 13)] 2 "java/lang/IllegalArgumentException" 8 := ⟨[], (⟨0, 5, 8, 13⟩ : ExceptionTableEntry), [], "java/lang/IllegalArgumentException", rfl, (fun z hz => nomatch hz), by decide, by decide, jv_w (jv_tb 280 (by decide +kernel)) rfl, jv_tb 290 (by decide +kernel), rfl⟩
set_option maxRecDepth 100000 in
set_option maxHeartbeats 4000000 in
theorem ok_L_begin {G : jv_G} {l : Launch} (hl0 : l.stackTraces = false) {σ : jv_S} {p1 : Int32} {r : Int32 × jv_S} (h : f_L_begin σ p1 = some r) : jv_Cw G l 7 M_L_begin [(0, 5, 8, 13)] [.ref 0, .int p1] σ (some (.int r.1)) r.2 := by
  refine jv_ofW (L0 := [some (.ref 0), some (.int p1), none]) (by decide +kernel) (Nat.le_of_ble_eq_true rfl) rfl rfl (fun E e1 e2 hE hR hT hret hret1 => ?_)
  subst e1; subst e2
  unfold f_L_begin at h
  have hE1 := jv_Cx1 hE hR
  obtain ⟨⟨q1, q2⟩, hq, h⟩ := jv_bd_some h
  dsimp only at h
  refine jv_aload_n (x := 0) (pc' := 1) hE dL_begin_0 rfl 0 rfl rfl ?_
  refine jv_iload_n (x := p1) (pc' := 2) hE dL_begin_1 rfl 1 rfl rfl ?_
  have hz := jv_xe_or h
  clear h
  rcases hz with ⟨e0, he, h⟩ | ⟨v, he, h⟩
  · subst he
    by_cases c0 : e0 = "java/lang/IllegalArgumentException"
    · rw [if_pos c0] at h
      subst c0
      cases h
      refine jv_callC (pc' := 9) hE hR hT dL_begin_2 lV_L_7 (okt_X7_begin hl0 hq) rfl rfl rfl (by decide) rfl (Nat.le_of_ble_eq_true rfl) lCa_L_begin_0 2 (by decide) (Or.inl ⟨2, rfl, dL_begin_8, rfl⟩) ?_
      refine jv_iconst (v := (1 : Int32)) (pc' := 10) hE1 dL_begin_9 rfl (by decide) ?_
      exact hret1 _ _ dL_begin_10
    rw [if_neg c0] at h
    cases h
  · subst he
    refine jv_callV (pc' := 5) (o := none) (σ' := q2) hE dL_begin_2 rfl lV_L_7 (ok_X7_begin hq) rfl rfl rfl (by decide) rfl (Nat.le_of_ble_eq_true rfl) ?_
    show jv_V E 5 [some (.ref 0), some (.int p1), none] [] q2
    refine jv_goto (tgt := 11) hE dL_begin_5 (by decide) ?_
    refine jv_iconst (v := (0 : Int32)) (pc' := 12) hE dL_begin_11 rfl (by decide) ?_
    cases h
    exact hret _ _ dL_begin_12
noncomputable def f_L_addEdge (σ : jv_S) (p1 : Int32) (p2 : Int32) (p3 : Int32) : Option (Int32 × jv_S) := jv_bd (f_X7_addEdge σ p1 p2 p3) (fun q => (fun (q1 : Except String Int32) (q2 : jv_S) => jv_xe q1 (fun e => if e = "java/lang/IllegalArgumentException" then some ((1 : Int32), q2) else (if e = "java/lang/IllegalStateException" then some ((2 : Int32), q2) else (none))) (fun v => some ((0 : Int32), jv_sl q2 61 (0 : Int32).toNatClampNeg v.toInt64))) q.1 q.2)
theorem lCa_L_addEdge_0 : jv_Ca [(0, 12, 15, 13), (0, 12, 19, 19)] 7 "java/lang/IllegalArgumentException" 15 := ⟨[], (⟨0, 12, 15, 13⟩ : ExceptionTableEntry), [(⟨0, 12, 19, 19⟩ : ExceptionTableEntry)], "java/lang/IllegalArgumentException", rfl, (fun z hz => nomatch hz), by decide, by decide, jv_w (jv_tb 280 (by decide +kernel)) rfl, jv_tb 290 (by decide +kernel), rfl⟩
theorem lCa_L_addEdge_1 : jv_Ca [(0, 12, 15, 13), (0, 12, 19, 19)] 7 "java/lang/IllegalStateException" 19 := ⟨[(⟨0, 12, 15, 13⟩ : ExceptionTableEntry)], (⟨0, 12, 19, 19⟩ : ExceptionTableEntry), [], "java/lang/IllegalStateException", rfl, (fun z hz => Or.inr (by rw [List.mem_singleton.mp hz]; exact ⟨by decide, "java/lang/IllegalArgumentException", jv_w (jv_tb 280 (by decide +kernel)) rfl, by decide +kernel⟩)), by decide, by decide, jv_w (jv_tb 392 (by decide +kernel)) rfl, jv_tb 417 (by decide +kernel), rfl⟩
set_option maxRecDepth 100000 in
set_option maxHeartbeats 4000000 in
theorem ok_L_addEdge {G : jv_G} {l : Launch} (hl0 : l.stackTraces = false) {σ : jv_S} {p1 : Int32} {p2 : Int32} {p3 : Int32} {r : Int32 × jv_S} (h : f_L_addEdge σ p1 p2 p3 = some r) : jv_Cw G l 7 M_L_addEdge [(0, 12, 15, 13), (0, 12, 19, 19)] [.ref 0, .int p1, .int p2, .int p3, .ref 61] σ (some (.int r.1)) r.2 := by
  refine jv_ofW (L0 := [some (.ref 0), some (.int p1), some (.int p2), some (.int p3), some (.ref 61), none]) (by decide +kernel) (Nat.le_of_ble_eq_true rfl) rfl rfl (fun E e1 e2 hE hR hT hret hret1 => ?_)
  subst e1; subst e2
  unfold f_L_addEdge at h
  have hE1 := jv_Cx1 hE hR
  obtain ⟨⟨q1, q2⟩, hq, h⟩ := jv_bd_some h
  dsimp only at h
  refine jv_aload (x := 61) (pc' := 2) hE dL_addEdge_0 rfl rfl ?_
  refine jv_iconst (v := (0 : Int32)) (pc' := 3) hE dL_addEdge_2 rfl (by decide) ?_
  refine jv_aload_n (x := 0) (pc' := 4) hE dL_addEdge_3 rfl 0 rfl rfl ?_
  refine jv_iload_n (x := p1) (pc' := 5) hE dL_addEdge_4 rfl 1 rfl rfl ?_
  refine jv_iload_n (x := p2) (pc' := 6) hE dL_addEdge_5 rfl 2 rfl rfl ?_
  refine jv_iload_n (x := p3) (pc' := 7) hE dL_addEdge_6 rfl 3 rfl rfl ?_
  have hz := jv_xe_or h
  clear h
  rcases hz with ⟨e0, he, h⟩ | ⟨v, he, h⟩
  · subst he
    by_cases c0 : e0 = "java/lang/IllegalArgumentException"
    · rw [if_pos c0] at h
      subst c0
      cases h
      refine jv_callC (pc' := 17) hE hR hT dL_addEdge_7 lV_L_15 (okt_X7_addEdge hl0 hq) rfl rfl rfl (by decide) rfl (Nat.le_of_ble_eq_true rfl) lCa_L_addEdge_0 5 (by decide) (Or.inr ⟨dL_addEdge_15, rfl⟩) ?_
      refine jv_iconst (v := (1 : Int32)) (pc' := 18) hE1 dL_addEdge_17 rfl (by decide) ?_
      exact hret1 _ _ dL_addEdge_18
    rw [if_neg c0] at h
    by_cases c1 : e0 = "java/lang/IllegalStateException"
    · rw [if_pos c1] at h
      subst c1
      cases h
      refine jv_callC (pc' := 21) hE hR hT dL_addEdge_7 lV_L_15 (okt_X7_addEdge hl0 hq) rfl rfl rfl (by decide) rfl (Nat.le_of_ble_eq_true rfl) lCa_L_addEdge_1 5 (by decide) (Or.inr ⟨dL_addEdge_19, rfl⟩) ?_
      refine jv_iconst (v := (2 : Int32)) (pc' := 22) hE1 dL_addEdge_21 rfl (by decide) ?_
      exact hret1 _ _ dL_addEdge_22
    rw [if_neg c1] at h
    cases h
  · subst he
    refine jv_callV (pc' := 10) (o := some (.int v)) (σ' := q2) hE dL_addEdge_7 rfl lV_L_15 (ok_X7_addEdge hq) rfl rfl rfl (by decide) rfl (Nat.le_of_ble_eq_true rfl) ?_
    show jv_V E 10 [some (.ref 0), some (.int p1), some (.int p2), some (.int p3), some (.ref 61), none] [.int v, .int (0 : Int32), .ref 61] q2
    refine jv_i2l (x := v) (pc' := 11) hE dL_addEdge_10 rfl ?_
    refine jv_last (pc' := 12) hE dL_addEdge_11 rfl rfl (jv_ck_in (by decide)) ?_
    refine jv_goto (tgt := 23) hE dL_addEdge_12 (by decide) ?_
    refine jv_iconst (v := (0 : Int32)) (pc' := 24) hE dL_addEdge_23 rfl (by decide) ?_
    cases h
    exact hret _ _ dL_addEdge_24
noncomputable def f_L_setLength (σ : jv_S) (p1 : Int32) (p2 : Int32) : Option (Int32 × jv_S) := jv_lt (f_X7_setLength σ p1 p2) (fun q => (fun (q1 : Except String Int32) (q2 : jv_S) => jv_xe q1 (fun e => if e = "java/lang/IllegalArgumentException" then some ((1 : Int32), q2) else (none)) (fun v => some ((0 : Int32), jv_sl q2 61 (0 : Int32).toNatClampNeg v.toInt64))) q.1 q.2)
theorem lCa_L_setLength_0 : jv_Ca [(0, 10, 13, 13)] 5 "java/lang/IllegalArgumentException" 13 := ⟨[], (⟨0, 10, 13, 13⟩ : ExceptionTableEntry), [], "java/lang/IllegalArgumentException", rfl, (fun z hz => nomatch hz), by decide, by decide, jv_w (jv_tb 280 (by decide +kernel)) rfl, jv_tb 290 (by decide +kernel), rfl⟩
set_option maxRecDepth 100000 in
set_option maxHeartbeats 4000000 in
theorem ok_L_setLength {G : jv_G} {l : Launch} (hl0 : l.stackTraces = false) {σ : jv_S} {p1 : Int32} {p2 : Int32} {r : Int32 × jv_S} (h : f_L_setLength σ p1 p2 = some r) : jv_Cw G l 5 M_L_setLength [(0, 10, 13, 13)] [.ref 0, .int p1, .int p2, .ref 61] σ (some (.int r.1)) r.2 := by
  refine jv_ofW (L0 := [some (.ref 0), some (.int p1), some (.int p2), some (.ref 61), none]) (by decide +kernel) (Nat.le_of_ble_eq_true rfl) rfl rfl (fun E e1 e2 hE hR hT hret hret1 => ?_)
  subst e1; subst e2
  unfold f_L_setLength at h
  have hE1 := jv_Cx1 hE hR
  obtain ⟨⟨q1, q2⟩, hq, h⟩ := jv_lt_eq h
  dsimp only at h
  refine jv_aload_n (x := 61) (pc' := 1) hE dL_setLength_0 rfl 3 rfl rfl ?_
  refine jv_iconst (v := (0 : Int32)) (pc' := 2) hE dL_setLength_1 rfl (by decide) ?_
  refine jv_aload_n (x := 0) (pc' := 3) hE dL_setLength_2 rfl 0 rfl rfl ?_
  refine jv_iload_n (x := p1) (pc' := 4) hE dL_setLength_3 rfl 1 rfl rfl ?_
  refine jv_iload_n (x := p2) (pc' := 5) hE dL_setLength_4 rfl 2 rfl rfl ?_
  have hz := jv_xe_or h
  clear h
  rcases hz with ⟨e0, he, h⟩ | ⟨v, he, h⟩
  · subst he
    by_cases c0 : e0 = "java/lang/IllegalArgumentException"
    · rw [if_pos c0] at h
      subst c0
      cases h
      refine jv_callC (pc' := 15) hE hR hT dL_setLength_5 lV_L_21 (okt_X7_setLength hl0 hq) rfl rfl rfl (by decide) rfl (Nat.le_of_ble_eq_true rfl) lCa_L_setLength_0 4 (by decide) (Or.inr ⟨dL_setLength_13, rfl⟩) ?_
      refine jv_iconst (v := (1 : Int32)) (pc' := 16) hE1 dL_setLength_15 rfl (by decide) ?_
      exact hret1 _ _ dL_setLength_16
    rw [if_neg c0] at h
    cases h
  · subst he
    refine jv_callV (pc' := 8) (o := some (.int v)) (σ' := q2) hE dL_setLength_5 rfl lV_L_21 (ok_X7_setLength hq) rfl rfl rfl (by decide) rfl (Nat.le_of_ble_eq_true rfl) ?_
    show jv_V E 8 [some (.ref 0), some (.int p1), some (.int p2), some (.ref 61), none] [.int v, .int (0 : Int32), .ref 61] q2
    refine jv_i2l (x := v) (pc' := 9) hE dL_setLength_8 rfl ?_
    refine jv_last (pc' := 10) hE dL_setLength_9 rfl rfl (jv_ck_in (by decide)) ?_
    refine jv_goto (tgt := 17) hE dL_setLength_10 (by decide) ?_
    refine jv_iconst (v := (0 : Int32)) (pc' := 18) hE dL_setLength_17 rfl (by decide) ?_
    cases h
    exact hret _ _ dL_setLength_18
noncomputable def f_L_toggleEdge (σ : jv_S) (p1 : Int32) : Option (Int32 × jv_S) := jv_bd (f_X7_toggleEdge σ p1) (fun q => (fun (q1 : Except String Bool) (q2 : jv_S) => jv_xe q1 (fun e => if e = "java/lang/IllegalArgumentException" then some ((1 : Int32), q2) else (none)) (fun v => some ((0 : Int32), jv_sl q2 61 (0 : Int32).toNatClampNeg (jv_bl v)))) q.1 q.2)
theorem lCa_L_toggleEdge_0 : jv_Ca [(0, 16, 19, 13)] 4 "java/lang/IllegalArgumentException" 19 := ⟨[], (⟨0, 16, 19, 13⟩ : ExceptionTableEntry), [], "java/lang/IllegalArgumentException", rfl, (fun z hz => nomatch hz), by decide, by decide, jv_w (jv_tb 280 (by decide +kernel)) rfl, jv_tb 290 (by decide +kernel), rfl⟩
set_option maxRecDepth 100000 in
set_option maxHeartbeats 4000000 in
theorem ok_L_toggleEdge {G : jv_G} {l : Launch} (hl0 : l.stackTraces = false) {σ : jv_S} {p1 : Int32} {r : Int32 × jv_S} (h : f_L_toggleEdge σ p1 = some r) : jv_Cw G l 7 M_L_toggleEdge [(0, 16, 19, 13)] [.ref 0, .int p1, .ref 61] σ (some (.int r.1)) r.2 := by
  refine jv_ofW (L0 := [some (.ref 0), some (.int p1), some (.ref 61), none]) (by decide +kernel) (Nat.le_of_ble_eq_true rfl) rfl rfl (fun E e1 e2 hE hR hT hret hret1 => ?_)
  subst e1; subst e2
  unfold f_L_toggleEdge at h
  have hE1 := jv_Cx1 hE hR
  obtain ⟨⟨q1, q2⟩, hq, h⟩ := jv_bd_some h
  dsimp only at h
  refine jv_aload_n (x := 61) (pc' := 1) hE dL_toggleEdge_0 rfl 2 rfl rfl ?_
  refine jv_iconst (v := (0 : Int32)) (pc' := 2) hE dL_toggleEdge_1 rfl (by decide) ?_
  refine jv_aload_n (x := 0) (pc' := 3) hE dL_toggleEdge_2 rfl 0 rfl rfl ?_
  refine jv_iload_n (x := p1) (pc' := 4) hE dL_toggleEdge_3 rfl 1 rfl rfl ?_
  have hz := jv_xe_or h
  clear h
  rcases hz with ⟨e0, he, h⟩ | ⟨v, he, h⟩
  · subst he
    by_cases c0 : e0 = "java/lang/IllegalArgumentException"
    · rw [if_pos c0] at h
      subst c0
      cases h
      refine jv_callC (pc' := 20) hE hR hT dL_toggleEdge_4 lV_L_25 (okt_X7_toggleEdge hl0 hq) rfl rfl rfl (by decide) rfl (Nat.le_of_ble_eq_true rfl) lCa_L_toggleEdge_0 3 (by decide) (Or.inl ⟨3, rfl, dL_toggleEdge_19, rfl⟩) ?_
      refine jv_iconst (v := (1 : Int32)) (pc' := 21) hE1 dL_toggleEdge_20 rfl (by decide) ?_
      exact hret1 _ _ dL_toggleEdge_21
    rw [if_neg c0] at h
    cases h
  · subst he
    cases v
    · refine jv_callV (pc' := 7) (o := some (.int (jv_b false))) (σ' := q2) hE dL_toggleEdge_4 rfl lV_L_25 (ok_X7_toggleEdge hq) rfl rfl rfl (by decide) rfl (Nat.le_of_ble_eq_true rfl) ?_
      show jv_V E 7 [some (.ref 0), some (.int p1), some (.ref 61), none] [.int (jv_b false), .int (0 : Int32), .ref 61] q2
      refine jv_if_eq (tgt := 14) (pc' := 10) hE dL_toggleEdge_7 (by decide) rfl (fun c => ?_) (fun c => absurd rfl c)
      refine jv_lconst (v := (0 : Int64)) (pc' := 15) hE dL_toggleEdge_14 rfl (by decide) ?_
      refine jv_last (pc' := 16) hE dL_toggleEdge_15 rfl rfl (jv_ck_in (by decide)) ?_
      refine jv_goto (tgt := 22) hE dL_toggleEdge_16 (by decide) ?_
      refine jv_iconst (v := (0 : Int32)) (pc' := 23) hE dL_toggleEdge_22 rfl (by decide) ?_
      cases h
      exact hret _ _ dL_toggleEdge_23
    · refine jv_callV (pc' := 7) (o := some (.int (jv_b true))) (σ' := q2) hE dL_toggleEdge_4 rfl lV_L_25 (ok_X7_toggleEdge hq) rfl rfl rfl (by decide) rfl (Nat.le_of_ble_eq_true rfl) ?_
      show jv_V E 7 [some (.ref 0), some (.int p1), some (.ref 61), none] [.int (jv_b true), .int (0 : Int32), .ref 61] q2
      refine jv_if_eq (tgt := 14) (pc' := 10) hE dL_toggleEdge_7 (by decide) rfl (fun c => absurd c (by decide)) (fun c => ?_)
      refine jv_lconst (v := (1 : Int64)) (pc' := 11) hE dL_toggleEdge_10 rfl (by decide) ?_
      refine jv_goto (tgt := 15) hE dL_toggleEdge_11 (by decide) ?_
      refine jv_last (pc' := 16) hE dL_toggleEdge_15 rfl rfl (jv_ck_in (by decide)) ?_
      refine jv_goto (tgt := 22) hE dL_toggleEdge_16 (by decide) ?_
      refine jv_iconst (v := (0 : Int32)) (pc' := 23) hE dL_toggleEdge_22 rfl (by decide) ?_
      cases h
      exact hret _ _ dL_toggleEdge_23
noncomputable def f_L_toggleNode (σ : jv_S) (p1 : Int32) : Option (Int32 × jv_S) := jv_bd (f_X7_toggleNode σ p1) (fun q => (fun (q1 : Except String Bool) (q2 : jv_S) => jv_xe q1 (fun e => if e = "java/lang/IllegalArgumentException" then some ((1 : Int32), q2) else (none)) (fun v => some ((0 : Int32), jv_sl q2 61 (0 : Int32).toNatClampNeg (jv_bl v)))) q.1 q.2)
theorem lCa_L_toggleNode_0 : jv_Ca [(0, 16, 19, 13)] 4 "java/lang/IllegalArgumentException" 19 := ⟨[], (⟨0, 16, 19, 13⟩ : ExceptionTableEntry), [], "java/lang/IllegalArgumentException", rfl, (fun z hz => nomatch hz), by decide, by decide, jv_w (jv_tb 280 (by decide +kernel)) rfl, jv_tb 290 (by decide +kernel), rfl⟩
set_option maxRecDepth 100000 in
set_option maxHeartbeats 4000000 in
theorem ok_L_toggleNode {G : jv_G} {l : Launch} (hl0 : l.stackTraces = false) {σ : jv_S} {p1 : Int32} {r : Int32 × jv_S} (h : f_L_toggleNode σ p1 = some r) : jv_Cw G l 7 M_L_toggleNode [(0, 16, 19, 13)] [.ref 0, .int p1, .ref 61] σ (some (.int r.1)) r.2 := by
  refine jv_ofW (L0 := [some (.ref 0), some (.int p1), some (.ref 61), none]) (by decide +kernel) (Nat.le_of_ble_eq_true rfl) rfl rfl (fun E e1 e2 hE hR hT hret hret1 => ?_)
  subst e1; subst e2
  unfold f_L_toggleNode at h
  have hE1 := jv_Cx1 hE hR
  obtain ⟨⟨q1, q2⟩, hq, h⟩ := jv_bd_some h
  dsimp only at h
  refine jv_aload_n (x := 61) (pc' := 1) hE dL_toggleNode_0 rfl 2 rfl rfl ?_
  refine jv_iconst (v := (0 : Int32)) (pc' := 2) hE dL_toggleNode_1 rfl (by decide) ?_
  refine jv_aload_n (x := 0) (pc' := 3) hE dL_toggleNode_2 rfl 0 rfl rfl ?_
  refine jv_iload_n (x := p1) (pc' := 4) hE dL_toggleNode_3 rfl 1 rfl rfl ?_
  have hz := jv_xe_or h
  clear h
  rcases hz with ⟨e0, he, h⟩ | ⟨v, he, h⟩
  · subst he
    by_cases c0 : e0 = "java/lang/IllegalArgumentException"
    · rw [if_pos c0] at h
      subst c0
      cases h
      refine jv_callC (pc' := 20) hE hR hT dL_toggleNode_4 lV_L_29 (okt_X7_toggleNode hl0 hq) rfl rfl rfl (by decide) rfl (Nat.le_of_ble_eq_true rfl) lCa_L_toggleNode_0 3 (by decide) (Or.inl ⟨3, rfl, dL_toggleNode_19, rfl⟩) ?_
      refine jv_iconst (v := (1 : Int32)) (pc' := 21) hE1 dL_toggleNode_20 rfl (by decide) ?_
      exact hret1 _ _ dL_toggleNode_21
    rw [if_neg c0] at h
    cases h
  · subst he
    cases v
    · refine jv_callV (pc' := 7) (o := some (.int (jv_b false))) (σ' := q2) hE dL_toggleNode_4 rfl lV_L_29 (ok_X7_toggleNode hq) rfl rfl rfl (by decide) rfl (Nat.le_of_ble_eq_true rfl) ?_
      show jv_V E 7 [some (.ref 0), some (.int p1), some (.ref 61), none] [.int (jv_b false), .int (0 : Int32), .ref 61] q2
      refine jv_if_eq (tgt := 14) (pc' := 10) hE dL_toggleNode_7 (by decide) rfl (fun c => ?_) (fun c => absurd rfl c)
      refine jv_lconst (v := (0 : Int64)) (pc' := 15) hE dL_toggleNode_14 rfl (by decide) ?_
      refine jv_last (pc' := 16) hE dL_toggleNode_15 rfl rfl (jv_ck_in (by decide)) ?_
      refine jv_goto (tgt := 22) hE dL_toggleNode_16 (by decide) ?_
      refine jv_iconst (v := (0 : Int32)) (pc' := 23) hE dL_toggleNode_22 rfl (by decide) ?_
      cases h
      exact hret _ _ dL_toggleNode_23
    · refine jv_callV (pc' := 7) (o := some (.int (jv_b true))) (σ' := q2) hE dL_toggleNode_4 rfl lV_L_29 (ok_X7_toggleNode hq) rfl rfl rfl (by decide) rfl (Nat.le_of_ble_eq_true rfl) ?_
      show jv_V E 7 [some (.ref 0), some (.int p1), some (.ref 61), none] [.int (jv_b true), .int (0 : Int32), .ref 61] q2
      refine jv_if_eq (tgt := 14) (pc' := 10) hE dL_toggleNode_7 (by decide) rfl (fun c => absurd c (by decide)) (fun c => ?_)
      refine jv_lconst (v := (1 : Int64)) (pc' := 11) hE dL_toggleNode_10 rfl (by decide) ?_
      refine jv_goto (tgt := 15) hE dL_toggleNode_11 (by decide) ?_
      refine jv_last (pc' := 16) hE dL_toggleNode_15 rfl rfl (jv_ck_in (by decide)) ?_
      refine jv_goto (tgt := 22) hE dL_toggleNode_16 (by decide) ?_
      refine jv_iconst (v := (0 : Int32)) (pc' := 23) hE dL_toggleNode_22 rfl (by decide) ?_
      cases h
      exact hret _ _ dL_toggleNode_23
noncomputable def f_L_toggleTurn (σ : jv_S) (p1 : Int32) (p2 : Int32) : Option (Int32 × jv_S) := jv_lt (f_X7_toggleTurn σ p1 p2) (fun q => (fun (q1 : Except String Bool) (q2 : jv_S) => jv_xe q1 (fun e => if e = "java/lang/IllegalArgumentException" then some ((1 : Int32), q2) else (none)) (fun v => some ((0 : Int32), jv_sl q2 61 (0 : Int32).toNatClampNeg (jv_bl v)))) q.1 q.2)
theorem lCa_L_toggleTurn_0 : jv_Ca [(0, 17, 20, 13)] 5 "java/lang/IllegalArgumentException" 20 := ⟨[], (⟨0, 17, 20, 13⟩ : ExceptionTableEntry), [], "java/lang/IllegalArgumentException", rfl, (fun z hz => nomatch hz), by decide, by decide, jv_w (jv_tb 280 (by decide +kernel)) rfl, jv_tb 290 (by decide +kernel), rfl⟩
set_option maxRecDepth 100000 in
set_option maxHeartbeats 4000000 in
theorem ok_L_toggleTurn {G : jv_G} {l : Launch} (hl0 : l.stackTraces = false) {σ : jv_S} {p1 : Int32} {p2 : Int32} {r : Int32 × jv_S} (h : f_L_toggleTurn σ p1 p2 = some r) : jv_Cw G l 5 M_L_toggleTurn [(0, 17, 20, 13)] [.ref 0, .int p1, .int p2, .ref 61] σ (some (.int r.1)) r.2 := by
  refine jv_ofW (L0 := [some (.ref 0), some (.int p1), some (.int p2), some (.ref 61), none]) (by decide +kernel) (Nat.le_of_ble_eq_true rfl) rfl rfl (fun E e1 e2 hE hR hT hret hret1 => ?_)
  subst e1; subst e2
  unfold f_L_toggleTurn at h
  have hE1 := jv_Cx1 hE hR
  obtain ⟨⟨q1, q2⟩, hq, h⟩ := jv_lt_eq h
  dsimp only at h
  refine jv_aload_n (x := 61) (pc' := 1) hE dL_toggleTurn_0 rfl 3 rfl rfl ?_
  refine jv_iconst (v := (0 : Int32)) (pc' := 2) hE dL_toggleTurn_1 rfl (by decide) ?_
  refine jv_aload_n (x := 0) (pc' := 3) hE dL_toggleTurn_2 rfl 0 rfl rfl ?_
  refine jv_iload_n (x := p1) (pc' := 4) hE dL_toggleTurn_3 rfl 1 rfl rfl ?_
  refine jv_iload_n (x := p2) (pc' := 5) hE dL_toggleTurn_4 rfl 2 rfl rfl ?_
  have hz := jv_xe_or h
  clear h
  rcases hz with ⟨e0, he, h⟩ | ⟨v, he, h⟩
  · subst he
    by_cases c0 : e0 = "java/lang/IllegalArgumentException"
    · rw [if_pos c0] at h
      subst c0
      cases h
      refine jv_callC (pc' := 22) hE hR hT dL_toggleTurn_5 lV_L_32 (okt_X7_toggleTurn hl0 hq) rfl rfl rfl (by decide) rfl (Nat.le_of_ble_eq_true rfl) lCa_L_toggleTurn_0 4 (by decide) (Or.inr ⟨dL_toggleTurn_20, rfl⟩) ?_
      refine jv_iconst (v := (1 : Int32)) (pc' := 23) hE1 dL_toggleTurn_22 rfl (by decide) ?_
      exact hret1 _ _ dL_toggleTurn_23
    rw [if_neg c0] at h
    cases h
  · subst he
    cases v
    · refine jv_callV (pc' := 8) (o := some (.int (jv_b false))) (σ' := q2) hE dL_toggleTurn_5 rfl lV_L_32 (ok_X7_toggleTurn hq) rfl rfl rfl (by decide) rfl (Nat.le_of_ble_eq_true rfl) ?_
      show jv_V E 8 [some (.ref 0), some (.int p1), some (.int p2), some (.ref 61), none] [.int (jv_b false), .int (0 : Int32), .ref 61] q2
      refine jv_if_eq (tgt := 15) (pc' := 11) hE dL_toggleTurn_8 (by decide) rfl (fun c => ?_) (fun c => absurd rfl c)
      refine jv_lconst (v := (0 : Int64)) (pc' := 16) hE dL_toggleTurn_15 rfl (by decide) ?_
      refine jv_last (pc' := 17) hE dL_toggleTurn_16 rfl rfl (jv_ck_in (by decide)) ?_
      refine jv_goto (tgt := 24) hE dL_toggleTurn_17 (by decide) ?_
      refine jv_iconst (v := (0 : Int32)) (pc' := 25) hE dL_toggleTurn_24 rfl (by decide) ?_
      cases h
      exact hret _ _ dL_toggleTurn_25
    · refine jv_callV (pc' := 8) (o := some (.int (jv_b true))) (σ' := q2) hE dL_toggleTurn_5 rfl lV_L_32 (ok_X7_toggleTurn hq) rfl rfl rfl (by decide) rfl (Nat.le_of_ble_eq_true rfl) ?_
      show jv_V E 8 [some (.ref 0), some (.int p1), some (.int p2), some (.ref 61), none] [.int (jv_b true), .int (0 : Int32), .ref 61] q2
      refine jv_if_eq (tgt := 15) (pc' := 11) hE dL_toggleTurn_8 (by decide) rfl (fun c => absurd c (by decide)) (fun c => ?_)
      refine jv_lconst (v := (1 : Int64)) (pc' := 12) hE dL_toggleTurn_11 rfl (by decide) ?_
      refine jv_goto (tgt := 16) hE dL_toggleTurn_12 (by decide) ?_
      refine jv_last (pc' := 17) hE dL_toggleTurn_16 rfl rfl (jv_ck_in (by decide)) ?_
      refine jv_goto (tgt := 24) hE dL_toggleTurn_17 (by decide) ?_
      refine jv_iconst (v := (0 : Int32)) (pc' := 25) hE dL_toggleTurn_24 rfl (by decide) ?_
      cases h
      exact hret _ _ dL_toggleTurn_25
noncomputable def f_L_distance (σ : jv_S) (p1 : Int32) (p2 : Int32) : Option (Int32 × jv_S) := jv_bd (f_X7_distance σ p1 p2) (fun q => (fun (q1 : Except String Int32) (q2 : jv_S) => jv_xe q1 (fun e => if e = "java/lang/IllegalArgumentException" then some ((1 : Int32), q2) else (if e = "java/util/NoSuchElementException" then some ((2 : Int32), q2) else (none))) (fun v => some ((0 : Int32), jv_sl q2 61 (0 : Int32).toNatClampNeg v.toInt64))) q.1 q.2)
theorem lCa_L_distance_0 : jv_Ca [(0, 10, 13, 13), (0, 10, 17, 39)] 5 "java/lang/IllegalArgumentException" 13 := ⟨[], (⟨0, 10, 13, 13⟩ : ExceptionTableEntry), [(⟨0, 10, 17, 39⟩ : ExceptionTableEntry)], "java/lang/IllegalArgumentException", rfl, (fun z hz => nomatch hz), by decide, by decide, jv_w (jv_tb 280 (by decide +kernel)) rfl, jv_tb 290 (by decide +kernel), rfl⟩
theorem lCa_L_distance_1 : jv_Ca [(0, 10, 13, 13), (0, 10, 17, 39)] 5 "java/util/NoSuchElementException" 17 := ⟨[(⟨0, 10, 13, 13⟩ : ExceptionTableEntry)], (⟨0, 10, 17, 39⟩ : ExceptionTableEntry), [], "java/util/NoSuchElementException", rfl, (fun z hz => Or.inr (by rw [List.mem_singleton.mp hz]; exact ⟨by decide, "java/lang/IllegalArgumentException", jv_w (jv_tb 280 (by decide +kernel)) rfl, by decide +kernel⟩)), by decide, by decide, jv_w (jv_tb 502 (by decide +kernel)) rfl, jv_tb 538 (by decide +kernel), rfl⟩
set_option maxRecDepth 100000 in
set_option maxHeartbeats 4000000 in
theorem ok_L_distance {G : jv_G} {l : Launch} (hl0 : l.stackTraces = false) {σ : jv_S} {p1 : Int32} {p2 : Int32} {r : Int32 × jv_S} (h : f_L_distance σ p1 p2 = some r) : jv_Cw G l 6 M_L_distance [(0, 10, 13, 13), (0, 10, 17, 39)] [.ref 0, .int p1, .int p2, .ref 61] σ (some (.int r.1)) r.2 := by
  refine jv_ofW (L0 := [some (.ref 0), some (.int p1), some (.int p2), some (.ref 61), none]) (by decide +kernel) (Nat.le_of_ble_eq_true rfl) rfl rfl (fun E e1 e2 hE hR hT hret hret1 => ?_)
  subst e1; subst e2
  unfold f_L_distance at h
  have hE1 := jv_Cx1 hE hR
  obtain ⟨⟨q1, q2⟩, hq, h⟩ := jv_bd_some h
  dsimp only at h
  refine jv_aload_n (x := 61) (pc' := 1) hE dL_distance_0 rfl 3 rfl rfl ?_
  refine jv_iconst (v := (0 : Int32)) (pc' := 2) hE dL_distance_1 rfl (by decide) ?_
  refine jv_aload_n (x := 0) (pc' := 3) hE dL_distance_2 rfl 0 rfl rfl ?_
  refine jv_iload_n (x := p1) (pc' := 4) hE dL_distance_3 rfl 1 rfl rfl ?_
  refine jv_iload_n (x := p2) (pc' := 5) hE dL_distance_4 rfl 2 rfl rfl ?_
  have hz := jv_xe_or h
  clear h
  rcases hz with ⟨e0, he, h⟩ | ⟨v, he, h⟩
  · subst he
    by_cases c0 : e0 = "java/lang/IllegalArgumentException"
    · rw [if_pos c0] at h
      subst c0
      cases h
      refine jv_callC (pc' := 15) hE hR hT dL_distance_5 lV_L_36 (okt_X7_distance hl0 hq) rfl rfl rfl (by decide) rfl (Nat.le_of_ble_eq_true rfl) lCa_L_distance_0 4 (by decide) (Or.inr ⟨dL_distance_13, rfl⟩) ?_
      refine jv_iconst (v := (1 : Int32)) (pc' := 16) hE1 dL_distance_15 rfl (by decide) ?_
      exact hret1 _ _ dL_distance_16
    rw [if_neg c0] at h
    by_cases c1 : e0 = "java/util/NoSuchElementException"
    · rw [if_pos c1] at h
      subst c1
      cases h
      refine jv_callC (pc' := 19) hE hR hT dL_distance_5 lV_L_36 (okt_X7_distance hl0 hq) rfl rfl rfl (by decide) rfl (Nat.le_of_ble_eq_true rfl) lCa_L_distance_1 4 (by decide) (Or.inr ⟨dL_distance_17, rfl⟩) ?_
      refine jv_iconst (v := (2 : Int32)) (pc' := 20) hE1 dL_distance_19 rfl (by decide) ?_
      exact hret1 _ _ dL_distance_20
    rw [if_neg c1] at h
    cases h
  · subst he
    refine jv_callV (pc' := 8) (o := some (.int v)) (σ' := q2) hE dL_distance_5 rfl lV_L_36 (ok_X7_distance hq) rfl rfl rfl (by decide) rfl (Nat.le_of_ble_eq_true rfl) ?_
    show jv_V E 8 [some (.ref 0), some (.int p1), some (.int p2), some (.ref 61), none] [.int v, .int (0 : Int32), .ref 61] q2
    refine jv_i2l (x := v) (pc' := 9) hE dL_distance_8 rfl ?_
    refine jv_last (pc' := 10) hE dL_distance_9 rfl rfl (jv_ck_in (by decide)) ?_
    refine jv_goto (tgt := 21) hE dL_distance_10 (by decide) ?_
    refine jv_iconst (v := (0 : Int32)) (pc' := 22) hE dL_distance_21 rfl (by decide) ?_
    cases h
    exact hret _ _ dL_distance_22
noncomputable def f_L_startPaths (σ : jv_S) (p1 : Int32) (p2 : Int32) : Option (Int32 × jv_S) := jv_lt (f_X7_startPaths σ p1 p2) (fun q => (fun (q1 : Except String Unit) (q2 : jv_S) => jv_xe q1 (fun e => if e = "java/lang/IllegalArgumentException" then some ((1 : Int32), q2) else (none)) (fun v => some ((0 : Int32), q2))) q.1 q.2)
theorem lCa_L_startPaths_0 : jv_Ca [(0, 6, 9, 13)] 3 "java/lang/IllegalArgumentException" 9 := ⟨[], (⟨0, 6, 9, 13⟩ : ExceptionTableEntry), [], "java/lang/IllegalArgumentException", rfl, (fun z hz => nomatch hz), by decide, by decide, jv_w (jv_tb 280 (by decide +kernel)) rfl, jv_tb 290 (by decide +kernel), rfl⟩
set_option maxRecDepth 100000 in
set_option maxHeartbeats 4000000 in
theorem ok_L_startPaths {G : jv_G} {l : Launch} (hl0 : l.stackTraces = false) {σ : jv_S} {p1 : Int32} {p2 : Int32} {r : Int32 × jv_S} (h : f_L_startPaths σ p1 p2 = some r) : jv_Cw G l 5 M_L_startPaths [(0, 6, 9, 13)] [.ref 0, .int p1, .int p2] σ (some (.int r.1)) r.2 := by
  refine jv_ofW (L0 := [some (.ref 0), some (.int p1), some (.int p2), none]) (by decide +kernel) (Nat.le_of_ble_eq_true rfl) rfl rfl (fun E e1 e2 hE hR hT hret hret1 => ?_)
  subst e1; subst e2
  unfold f_L_startPaths at h
  have hE1 := jv_Cx1 hE hR
  obtain ⟨⟨q1, q2⟩, hq, h⟩ := jv_lt_eq h
  dsimp only at h
  refine jv_aload_n (x := 0) (pc' := 1) hE dL_startPaths_0 rfl 0 rfl rfl ?_
  refine jv_iload_n (x := p1) (pc' := 2) hE dL_startPaths_1 rfl 1 rfl rfl ?_
  refine jv_iload_n (x := p2) (pc' := 3) hE dL_startPaths_2 rfl 2 rfl rfl ?_
  have hz := jv_xe_or h
  clear h
  rcases hz with ⟨e0, he, h⟩ | ⟨v, he, h⟩
  · subst he
    by_cases c0 : e0 = "java/lang/IllegalArgumentException"
    · rw [if_pos c0] at h
      subst c0
      cases h
      refine jv_callC (pc' := 10) hE hR hT dL_startPaths_3 lV_L_41 (okt_X7_startPaths hl0 hq) rfl rfl rfl (by decide) rfl (Nat.le_of_ble_eq_true rfl) lCa_L_startPaths_0 3 (by decide) (Or.inl ⟨3, rfl, dL_startPaths_9, rfl⟩) ?_
      refine jv_iconst (v := (1 : Int32)) (pc' := 11) hE1 dL_startPaths_10 rfl (by decide) ?_
      exact hret1 _ _ dL_startPaths_11
    rw [if_neg c0] at h
    cases h
  · subst he
    refine jv_callV (pc' := 6) (o := none) (σ' := q2) hE dL_startPaths_3 rfl lV_L_41 (ok_X7_startPaths hq) rfl rfl rfl (by decide) rfl (Nat.le_of_ble_eq_true rfl) ?_
    show jv_V E 6 [some (.ref 0), some (.int p1), some (.int p2), none] [] q2
    refine jv_goto (tgt := 12) hE dL_startPaths_6 (by decide) ?_
    refine jv_iconst (v := (0 : Int32)) (pc' := 13) hE dL_startPaths_12 rfl (by decide) ?_
    cases h
    exact hret _ _ dL_startPaths_13
noncomputable def f_L_nextPath (σ : jv_S) : Option (Int32 × jv_S) := jv_bd (f_X7_nextPath σ) (fun q => (fun (q1 : Except String Int32) (q2 : jv_S) => jv_xe q1 (fun e => if e = "java/lang/IllegalStateException" then some ((1 : Int32), q2) else (if e = "java/util/NoSuchElementException" then some ((2 : Int32), q2) else (none))) (fun v => some ((0 : Int32), jv_sl q2 61 (0 : Int32).toNatClampNeg v.toInt64))) q.1 q.2)
theorem lCa_L_nextPath_0 : jv_Ca [(0, 8, 11, 19), (0, 8, 14, 39)] 3 "java/lang/IllegalStateException" 11 := ⟨[], (⟨0, 8, 11, 19⟩ : ExceptionTableEntry), [(⟨0, 8, 14, 39⟩ : ExceptionTableEntry)], "java/lang/IllegalStateException", rfl, (fun z hz => nomatch hz), by decide, by decide, jv_w (jv_tb 392 (by decide +kernel)) rfl, jv_tb 417 (by decide +kernel), rfl⟩
theorem lCa_L_nextPath_1 : jv_Ca [(0, 8, 11, 19), (0, 8, 14, 39)] 3 "java/util/NoSuchElementException" 14 := ⟨[(⟨0, 8, 11, 19⟩ : ExceptionTableEntry)], (⟨0, 8, 14, 39⟩ : ExceptionTableEntry), [], "java/util/NoSuchElementException", rfl, (fun z hz => Or.inr (by rw [List.mem_singleton.mp hz]; exact ⟨by decide, "java/lang/IllegalStateException", jv_w (jv_tb 392 (by decide +kernel)) rfl, by decide +kernel⟩)), by decide, by decide, jv_w (jv_tb 502 (by decide +kernel)) rfl, jv_tb 538 (by decide +kernel), rfl⟩
set_option maxRecDepth 100000 in
set_option maxHeartbeats 4000000 in
theorem ok_L_nextPath {G : jv_G} {l : Launch} (hl0 : l.stackTraces = false) {σ : jv_S} {r : Int32 × jv_S} (h : f_L_nextPath σ  = some r) : jv_Cw G l 20 M_L_nextPath [(0, 8, 11, 19), (0, 8, 14, 39)] [.ref 0, .ref 61] σ (some (.int r.1)) r.2 := by
  refine jv_ofW (L0 := [some (.ref 0), some (.ref 61), none]) (by decide +kernel) (Nat.le_of_ble_eq_true rfl) rfl rfl (fun E e1 e2 hE hR hT hret hret1 => ?_)
  subst e1; subst e2
  unfold f_L_nextPath at h
  have hE1 := jv_Cx1 hE hR
  obtain ⟨⟨q1, q2⟩, hq, h⟩ := jv_bd_some h
  dsimp only at h
  refine jv_aload_n (x := 61) (pc' := 1) hE dL_nextPath_0 rfl 1 rfl rfl ?_
  refine jv_iconst (v := (0 : Int32)) (pc' := 2) hE dL_nextPath_1 rfl (by decide) ?_
  refine jv_aload_n (x := 0) (pc' := 3) hE dL_nextPath_2 rfl 0 rfl rfl ?_
  have hz := jv_xe_or h
  clear h
  rcases hz with ⟨e0, he, h⟩ | ⟨v, he, h⟩
  · subst he
    by_cases c0 : e0 = "java/lang/IllegalStateException"
    · rw [if_pos c0] at h
      subst c0
      cases h
      refine jv_callC (pc' := 12) hE hR hT dL_nextPath_3 lV_L_45 (okt_X7_nextPath hl0 hq) rfl rfl rfl (by decide) rfl (Nat.le_of_ble_eq_true rfl) lCa_L_nextPath_0 2 (by decide) (Or.inl ⟨2, rfl, dL_nextPath_11, rfl⟩) ?_
      refine jv_iconst (v := (1 : Int32)) (pc' := 13) hE1 dL_nextPath_12 rfl (by decide) ?_
      exact hret1 _ _ dL_nextPath_13
    rw [if_neg c0] at h
    by_cases c1 : e0 = "java/util/NoSuchElementException"
    · rw [if_pos c1] at h
      subst c1
      cases h
      refine jv_callC (pc' := 15) hE hR hT dL_nextPath_3 lV_L_45 (okt_X7_nextPath hl0 hq) rfl rfl rfl (by decide) rfl (Nat.le_of_ble_eq_true rfl) lCa_L_nextPath_1 2 (by decide) (Or.inl ⟨2, rfl, dL_nextPath_14, rfl⟩) ?_
      refine jv_iconst (v := (2 : Int32)) (pc' := 16) hE1 dL_nextPath_15 rfl (by decide) ?_
      exact hret1 _ _ dL_nextPath_16
    rw [if_neg c1] at h
    cases h
  · subst he
    refine jv_callV (pc' := 6) (o := some (.int v)) (σ' := q2) hE dL_nextPath_3 rfl lV_L_45 (ok_X7_nextPath hq) rfl rfl rfl (by decide) rfl (Nat.le_of_ble_eq_true rfl) ?_
    show jv_V E 6 [some (.ref 0), some (.ref 61), none] [.int v, .int (0 : Int32), .ref 61] q2
    refine jv_i2l (x := v) (pc' := 7) hE dL_nextPath_6 rfl ?_
    refine jv_last (pc' := 8) hE dL_nextPath_7 rfl rfl (jv_ck_in (by decide)) ?_
    refine jv_goto (tgt := 17) hE dL_nextPath_8 (by decide) ?_
    refine jv_iconst (v := (0 : Int32)) (pc' := 18) hE dL_nextPath_17 rfl (by decide) ?_
    cases h
    exact hret _ _ dL_nextPath_18
noncomputable def f_L_pathsDrawn (σ : jv_S) : Option (Int32 × jv_S) := jv_xe (f_X7_pathsDrawn σ) (fun e => if e = "java/lang/IllegalStateException" then some ((1 : Int32), σ) else (none)) (fun v => some ((0 : Int32), jv_sl σ 61 (0 : Int32).toNatClampNeg v.toInt64))
theorem lCa_L_pathsDrawn_0 : jv_Ca [(0, 8, 11, 19)] 3 "java/lang/IllegalStateException" 11 := ⟨[], (⟨0, 8, 11, 19⟩ : ExceptionTableEntry), [], "java/lang/IllegalStateException", rfl, (fun z hz => nomatch hz), by decide, by decide, jv_w (jv_tb 392 (by decide +kernel)) rfl, jv_tb 417 (by decide +kernel), rfl⟩
set_option maxRecDepth 100000 in
set_option maxHeartbeats 4000000 in
theorem ok_L_pathsDrawn {G : jv_G} {l : Launch} (hl0 : l.stackTraces = false) {σ : jv_S} {r : Int32 × jv_S} (h : f_L_pathsDrawn σ  = some r) : jv_Cw G l 3 M_L_pathsDrawn [(0, 8, 11, 19)] [.ref 0, .ref 61] σ (some (.int r.1)) r.2 := by
  refine jv_ofW (L0 := [some (.ref 0), some (.ref 61), none]) (by decide +kernel) (Nat.le_of_ble_eq_true rfl) rfl rfl (fun E e1 e2 hE hR hT hret hret1 => ?_)
  subst e1; subst e2
  unfold f_L_pathsDrawn at h
  have hE1 := jv_Cx1 hE hR
  refine jv_aload_n (x := 61) (pc' := 1) hE dL_pathsDrawn_0 rfl 1 rfl rfl ?_
  refine jv_iconst (v := (0 : Int32)) (pc' := 2) hE dL_pathsDrawn_1 rfl (by decide) ?_
  refine jv_aload_n (x := 0) (pc' := 3) hE dL_pathsDrawn_2 rfl 0 rfl rfl ?_
  have hz := jv_xe_or h
  clear h
  rcases hz with ⟨e0, he, h⟩ | ⟨v, he, h⟩
  · have hq := he
    by_cases c0 : e0 = "java/lang/IllegalStateException"
    · rw [if_pos c0] at h
      subst c0
      cases h
      refine jv_callC (pc' := 12) hE hR hT dL_pathsDrawn_3 lV_L_49 (okt_X7_pathsDrawn hl0 hq) rfl rfl rfl (by decide) rfl (Nat.le_of_ble_eq_true rfl) lCa_L_pathsDrawn_0 2 (by decide) (Or.inl ⟨2, rfl, dL_pathsDrawn_11, rfl⟩) ?_
      refine jv_iconst (v := (1 : Int32)) (pc' := 13) hE1 dL_pathsDrawn_12 rfl (by decide) ?_
      exact hret1 _ _ dL_pathsDrawn_13
    rw [if_neg c0] at h
    cases h
  · have hq := he
    refine jv_callV (pc' := 6) (o := some (.int v)) (σ' := σ) hE dL_pathsDrawn_3 rfl lV_L_49 (ok_X7_pathsDrawn hq) rfl rfl rfl (by decide) rfl (Nat.le_of_ble_eq_true rfl) ?_
    show jv_V E 6 [some (.ref 0), some (.ref 61), none] [.int v, .int (0 : Int32), .ref 61] σ
    refine jv_i2l (x := v) (pc' := 7) hE dL_pathsDrawn_6 rfl ?_
    refine jv_last (pc' := 8) hE dL_pathsDrawn_7 rfl rfl (jv_ck_in (by decide)) ?_
    refine jv_goto (tgt := 14) hE dL_pathsDrawn_8 (by decide) ?_
    refine jv_iconst (v := (0 : Int32)) (pc' := 15) hE dL_pathsDrawn_14 rfl (by decide) ?_
    cases h
    exact hret _ _ dL_pathsDrawn_15
noncomputable def f_L_pathEdges (σ : jv_S) : Option (Int32 × jv_S) := jv_bd (f_X7_pathEdges σ) (fun q1 => jv_xe q1 (fun e => if e = "java/lang/IllegalStateException" then some ((1 : Int32), σ) else (if e = "java/util/NoSuchElementException" then some ((2 : Int32), σ) else (none))) (fun v => some ((0 : Int32), jv_sl σ 61 (0 : Int32).toNatClampNeg v.toInt64)))
theorem lCa_L_pathEdges_0 : jv_Ca [(0, 8, 11, 19), (0, 8, 14, 39)] 3 "java/lang/IllegalStateException" 11 := ⟨[], (⟨0, 8, 11, 19⟩ : ExceptionTableEntry), [(⟨0, 8, 14, 39⟩ : ExceptionTableEntry)], "java/lang/IllegalStateException", rfl, (fun z hz => nomatch hz), by decide, by decide, jv_w (jv_tb 392 (by decide +kernel)) rfl, jv_tb 417 (by decide +kernel), rfl⟩
theorem lCa_L_pathEdges_1 : jv_Ca [(0, 8, 11, 19), (0, 8, 14, 39)] 3 "java/util/NoSuchElementException" 14 := ⟨[(⟨0, 8, 11, 19⟩ : ExceptionTableEntry)], (⟨0, 8, 14, 39⟩ : ExceptionTableEntry), [], "java/util/NoSuchElementException", rfl, (fun z hz => Or.inr (by rw [List.mem_singleton.mp hz]; exact ⟨by decide, "java/lang/IllegalStateException", jv_w (jv_tb 392 (by decide +kernel)) rfl, by decide +kernel⟩)), by decide, by decide, jv_w (jv_tb 502 (by decide +kernel)) rfl, jv_tb 538 (by decide +kernel), rfl⟩
set_option maxRecDepth 100000 in
set_option maxHeartbeats 4000000 in
theorem ok_L_pathEdges {G : jv_G} {l : Launch} (hl0 : l.stackTraces = false) {σ : jv_S} {r : Int32 × jv_S} (h : f_L_pathEdges σ  = some r) : jv_Cw G l 5 M_L_pathEdges [(0, 8, 11, 19), (0, 8, 14, 39)] [.ref 0, .ref 61] σ (some (.int r.1)) r.2 := by
  refine jv_ofW (L0 := [some (.ref 0), some (.ref 61), none]) (by decide +kernel) (Nat.le_of_ble_eq_true rfl) rfl rfl (fun E e1 e2 hE hR hT hret hret1 => ?_)
  subst e1; subst e2
  unfold f_L_pathEdges at h
  have hE1 := jv_Cx1 hE hR
  obtain ⟨q1, hq, h⟩ := jv_bd_some h
  refine jv_aload_n (x := 61) (pc' := 1) hE dL_pathEdges_0 rfl 1 rfl rfl ?_
  refine jv_iconst (v := (0 : Int32)) (pc' := 2) hE dL_pathEdges_1 rfl (by decide) ?_
  refine jv_aload_n (x := 0) (pc' := 3) hE dL_pathEdges_2 rfl 0 rfl rfl ?_
  have hz := jv_xe_or h
  clear h
  rcases hz with ⟨e0, he, h⟩ | ⟨v, he, h⟩
  · subst he
    by_cases c0 : e0 = "java/lang/IllegalStateException"
    · rw [if_pos c0] at h
      subst c0
      cases h
      refine jv_callC (pc' := 12) hE hR hT dL_pathEdges_3 lV_L_52 (okt_X7_pathEdges hl0 hq) rfl rfl rfl (by decide) rfl (Nat.le_of_ble_eq_true rfl) lCa_L_pathEdges_0 2 (by decide) (Or.inl ⟨2, rfl, dL_pathEdges_11, rfl⟩) ?_
      refine jv_iconst (v := (1 : Int32)) (pc' := 13) hE1 dL_pathEdges_12 rfl (by decide) ?_
      exact hret1 _ _ dL_pathEdges_13
    rw [if_neg c0] at h
    by_cases c1 : e0 = "java/util/NoSuchElementException"
    · rw [if_pos c1] at h
      subst c1
      cases h
      refine jv_callC (pc' := 15) hE hR hT dL_pathEdges_3 lV_L_52 (okt_X7_pathEdges hl0 hq) rfl rfl rfl (by decide) rfl (Nat.le_of_ble_eq_true rfl) lCa_L_pathEdges_1 2 (by decide) (Or.inl ⟨2, rfl, dL_pathEdges_14, rfl⟩) ?_
      refine jv_iconst (v := (2 : Int32)) (pc' := 16) hE1 dL_pathEdges_15 rfl (by decide) ?_
      exact hret1 _ _ dL_pathEdges_16
    rw [if_neg c1] at h
    cases h
  · subst he
    refine jv_callV (pc' := 6) (o := some (.int v)) (σ' := σ) hE dL_pathEdges_3 rfl lV_L_52 (ok_X7_pathEdges hq) rfl rfl rfl (by decide) rfl (Nat.le_of_ble_eq_true rfl) ?_
    show jv_V E 6 [some (.ref 0), some (.ref 61), none] [.int v, .int (0 : Int32), .ref 61] σ
    refine jv_i2l (x := v) (pc' := 7) hE dL_pathEdges_6 rfl ?_
    refine jv_last (pc' := 8) hE dL_pathEdges_7 rfl rfl (jv_ck_in (by decide)) ?_
    refine jv_goto (tgt := 17) hE dL_pathEdges_8 (by decide) ?_
    refine jv_iconst (v := (0 : Int32)) (pc' := 18) hE dL_pathEdges_17 rfl (by decide) ?_
    cases h
    exact hret _ _ dL_pathEdges_18
noncomputable def f_L_pathEdge (σ : jv_S) (p1 : Int32) : Option (Int32 × jv_S) := jv_xe (f_X7_pathEdge σ p1) (fun e => if e = "java/lang/IllegalStateException" then some ((1 : Int32), σ) else (if e = "java/util/NoSuchElementException" then some ((2 : Int32), σ) else (none))) (fun v => some ((0 : Int32), jv_sl σ 61 (0 : Int32).toNatClampNeg v.toInt64))
theorem lCa_L_pathEdge_0 : jv_Ca [(0, 9, 12, 19), (0, 9, 15, 39)] 4 "java/lang/IllegalStateException" 12 := ⟨[], (⟨0, 9, 12, 19⟩ : ExceptionTableEntry), [(⟨0, 9, 15, 39⟩ : ExceptionTableEntry)], "java/lang/IllegalStateException", rfl, (fun z hz => nomatch hz), by decide, by decide, jv_w (jv_tb 392 (by decide +kernel)) rfl, jv_tb 417 (by decide +kernel), rfl⟩
theorem lCa_L_pathEdge_1 : jv_Ca [(0, 9, 12, 19), (0, 9, 15, 39)] 4 "java/util/NoSuchElementException" 15 := ⟨[(⟨0, 9, 12, 19⟩ : ExceptionTableEntry)], (⟨0, 9, 15, 39⟩ : ExceptionTableEntry), [], "java/util/NoSuchElementException", rfl, (fun z hz => Or.inr (by rw [List.mem_singleton.mp hz]; exact ⟨by decide, "java/lang/IllegalStateException", jv_w (jv_tb 392 (by decide +kernel)) rfl, by decide +kernel⟩)), by decide, by decide, jv_w (jv_tb 502 (by decide +kernel)) rfl, jv_tb 538 (by decide +kernel), rfl⟩
set_option maxRecDepth 100000 in
set_option maxHeartbeats 4000000 in
theorem ok_L_pathEdge {G : jv_G} {l : Launch} (hl0 : l.stackTraces = false) {σ : jv_S} {p1 : Int32} {r : Int32 × jv_S} (h : f_L_pathEdge σ p1 = some r) : jv_Cw G l 4 M_L_pathEdge [(0, 9, 12, 19), (0, 9, 15, 39)] [.ref 0, .int p1, .ref 61] σ (some (.int r.1)) r.2 := by
  refine jv_ofW (L0 := [some (.ref 0), some (.int p1), some (.ref 61), none]) (by decide +kernel) (Nat.le_of_ble_eq_true rfl) rfl rfl (fun E e1 e2 hE hR hT hret hret1 => ?_)
  subst e1; subst e2
  unfold f_L_pathEdge at h
  have hE1 := jv_Cx1 hE hR
  refine jv_aload_n (x := 61) (pc' := 1) hE dL_pathEdge_0 rfl 2 rfl rfl ?_
  refine jv_iconst (v := (0 : Int32)) (pc' := 2) hE dL_pathEdge_1 rfl (by decide) ?_
  refine jv_aload_n (x := 0) (pc' := 3) hE dL_pathEdge_2 rfl 0 rfl rfl ?_
  refine jv_iload_n (x := p1) (pc' := 4) hE dL_pathEdge_3 rfl 1 rfl rfl ?_
  have hz := jv_xe_or h
  clear h
  rcases hz with ⟨e0, he, h⟩ | ⟨v, he, h⟩
  · have hq := he
    by_cases c0 : e0 = "java/lang/IllegalStateException"
    · rw [if_pos c0] at h
      subst c0
      cases h
      refine jv_callC (pc' := 13) hE hR hT dL_pathEdge_4 lV_L_55 (okt_X7_pathEdge hl0 hq) rfl rfl rfl (by decide) rfl (Nat.le_of_ble_eq_true rfl) lCa_L_pathEdge_0 3 (by decide) (Or.inl ⟨3, rfl, dL_pathEdge_12, rfl⟩) ?_
      refine jv_iconst (v := (1 : Int32)) (pc' := 14) hE1 dL_pathEdge_13 rfl (by decide) ?_
      exact hret1 _ _ dL_pathEdge_14
    rw [if_neg c0] at h
    by_cases c1 : e0 = "java/util/NoSuchElementException"
    · rw [if_pos c1] at h
      subst c1
      cases h
      refine jv_callC (pc' := 16) hE hR hT dL_pathEdge_4 lV_L_55 (okt_X7_pathEdge hl0 hq) rfl rfl rfl (by decide) rfl (Nat.le_of_ble_eq_true rfl) lCa_L_pathEdge_1 3 (by decide) (Or.inl ⟨3, rfl, dL_pathEdge_15, rfl⟩) ?_
      refine jv_iconst (v := (2 : Int32)) (pc' := 17) hE1 dL_pathEdge_16 rfl (by decide) ?_
      exact hret1 _ _ dL_pathEdge_17
    rw [if_neg c1] at h
    cases h
  · have hq := he
    refine jv_callV (pc' := 7) (o := some (.int v)) (σ' := σ) hE dL_pathEdge_4 rfl lV_L_55 (ok_X7_pathEdge hq) rfl rfl rfl (by decide) rfl (Nat.le_of_ble_eq_true rfl) ?_
    show jv_V E 7 [some (.ref 0), some (.int p1), some (.ref 61), none] [.int v, .int (0 : Int32), .ref 61] σ
    refine jv_i2l (x := v) (pc' := 8) hE dL_pathEdge_7 rfl ?_
    refine jv_last (pc' := 9) hE dL_pathEdge_8 rfl rfl (jv_ck_in (by decide)) ?_
    refine jv_goto (tgt := 18) hE dL_pathEdge_9 (by decide) ?_
    refine jv_iconst (v := (0 : Int32)) (pc' := 19) hE dL_pathEdge_18 rfl (by decide) ?_
    cases h
    exact hret _ _ dL_pathEdge_19
noncomputable def f_L_countPaths (σ : jv_S) (p1 : Int32) (p2 : Int32) (p3 : Int32) : Option (Int32 × jv_S) := jv_bd (f_X7_countPaths σ p1 p2 p3) (fun q => (fun (q1 : Except String Int32) (q2 : jv_S) => jv_xe q1 (fun e => if e = "java/lang/IllegalArgumentException" then some ((1 : Int32), q2) else (none)) (fun v => some ((0 : Int32), jv_sl q2 61 (0 : Int32).toNatClampNeg v.toInt64))) q.1 q.2)
theorem lCa_L_countPaths_0 : jv_Ca [(0, 12, 15, 13)] 7 "java/lang/IllegalArgumentException" 15 := ⟨[], (⟨0, 12, 15, 13⟩ : ExceptionTableEntry), [], "java/lang/IllegalArgumentException", rfl, (fun z hz => nomatch hz), by decide, by decide, jv_w (jv_tb 280 (by decide +kernel)) rfl, jv_tb 290 (by decide +kernel), rfl⟩
set_option maxRecDepth 100000 in
set_option maxHeartbeats 4000000 in
theorem ok_L_countPaths {G : jv_G} {l : Launch} (hl0 : l.stackTraces = false) {σ : jv_S} {p1 : Int32} {p2 : Int32} {p3 : Int32} {r : Int32 × jv_S} (h : f_L_countPaths σ p1 p2 p3 = some r) : jv_Cw G l 18 M_L_countPaths [(0, 12, 15, 13)] [.ref 0, .int p1, .int p2, .int p3, .ref 61] σ (some (.int r.1)) r.2 := by
  refine jv_ofW (L0 := [some (.ref 0), some (.int p1), some (.int p2), some (.int p3), some (.ref 61), none]) (by decide +kernel) (Nat.le_of_ble_eq_true rfl) rfl rfl (fun E e1 e2 hE hR hT hret hret1 => ?_)
  subst e1; subst e2
  unfold f_L_countPaths at h
  have hE1 := jv_Cx1 hE hR
  obtain ⟨⟨q1, q2⟩, hq, h⟩ := jv_bd_some h
  dsimp only at h
  refine jv_aload (x := 61) (pc' := 2) hE dL_countPaths_0 rfl rfl ?_
  refine jv_iconst (v := (0 : Int32)) (pc' := 3) hE dL_countPaths_2 rfl (by decide) ?_
  refine jv_aload_n (x := 0) (pc' := 4) hE dL_countPaths_3 rfl 0 rfl rfl ?_
  refine jv_iload_n (x := p1) (pc' := 5) hE dL_countPaths_4 rfl 1 rfl rfl ?_
  refine jv_iload_n (x := p2) (pc' := 6) hE dL_countPaths_5 rfl 2 rfl rfl ?_
  refine jv_iload_n (x := p3) (pc' := 7) hE dL_countPaths_6 rfl 3 rfl rfl ?_
  have hz := jv_xe_or h
  clear h
  rcases hz with ⟨e0, he, h⟩ | ⟨v, he, h⟩
  · subst he
    by_cases c0 : e0 = "java/lang/IllegalArgumentException"
    · rw [if_pos c0] at h
      subst c0
      cases h
      refine jv_callC (pc' := 17) hE hR hT dL_countPaths_7 lV_L_59 (okt_X7_countPaths hl0 hq) rfl rfl rfl (by decide) rfl (Nat.le_of_ble_eq_true rfl) lCa_L_countPaths_0 5 (by decide) (Or.inr ⟨dL_countPaths_15, rfl⟩) ?_
      refine jv_iconst (v := (1 : Int32)) (pc' := 18) hE1 dL_countPaths_17 rfl (by decide) ?_
      exact hret1 _ _ dL_countPaths_18
    rw [if_neg c0] at h
    cases h
  · subst he
    refine jv_callV (pc' := 10) (o := some (.int v)) (σ' := q2) hE dL_countPaths_7 rfl lV_L_59 (ok_X7_countPaths hq) rfl rfl rfl (by decide) rfl (Nat.le_of_ble_eq_true rfl) ?_
    show jv_V E 10 [some (.ref 0), some (.int p1), some (.int p2), some (.int p3), some (.ref 61), none] [.int v, .int (0 : Int32), .ref 61] q2
    refine jv_i2l (x := v) (pc' := 11) hE dL_countPaths_10 rfl ?_
    refine jv_last (pc' := 12) hE dL_countPaths_11 rfl rfl (jv_ck_in (by decide)) ?_
    refine jv_goto (tgt := 19) hE dL_countPaths_12 (by decide) ?_
    refine jv_iconst (v := (0 : Int32)) (pc' := 20) hE dL_countPaths_19 rfl (by decide) ?_
    cases h
    exact hret _ _ dL_countPaths_20
noncomputable def f_L_startWalks (σ : jv_S) (p1 : Int32) (p2 : Int32) : Option (Int32 × jv_S) := jv_lt (f_X7_startWalks σ p1 p2) (fun q => (fun (q1 : Except String Unit) (q2 : jv_S) => jv_xe q1 (fun e => if e = "java/lang/IllegalArgumentException" then some ((1 : Int32), q2) else (none)) (fun v => some ((0 : Int32), q2))) q.1 q.2)
theorem lCa_L_startWalks_0 : jv_Ca [(0, 6, 9, 13)] 3 "java/lang/IllegalArgumentException" 9 := ⟨[], (⟨0, 6, 9, 13⟩ : ExceptionTableEntry), [], "java/lang/IllegalArgumentException", rfl, (fun z hz => nomatch hz), by decide, by decide, jv_w (jv_tb 280 (by decide +kernel)) rfl, jv_tb 290 (by decide +kernel), rfl⟩
set_option maxRecDepth 100000 in
set_option maxHeartbeats 4000000 in
theorem ok_L_startWalks {G : jv_G} {l : Launch} (hl0 : l.stackTraces = false) {σ : jv_S} {p1 : Int32} {p2 : Int32} {r : Int32 × jv_S} (h : f_L_startWalks σ p1 p2 = some r) : jv_Cw G l 5 M_L_startWalks [(0, 6, 9, 13)] [.ref 0, .int p1, .int p2] σ (some (.int r.1)) r.2 := by
  refine jv_ofW (L0 := [some (.ref 0), some (.int p1), some (.int p2), none]) (by decide +kernel) (Nat.le_of_ble_eq_true rfl) rfl rfl (fun E e1 e2 hE hR hT hret hret1 => ?_)
  subst e1; subst e2
  unfold f_L_startWalks at h
  have hE1 := jv_Cx1 hE hR
  obtain ⟨⟨q1, q2⟩, hq, h⟩ := jv_lt_eq h
  dsimp only at h
  refine jv_aload_n (x := 0) (pc' := 1) hE dL_startWalks_0 rfl 0 rfl rfl ?_
  refine jv_iload_n (x := p1) (pc' := 2) hE dL_startWalks_1 rfl 1 rfl rfl ?_
  refine jv_iload_n (x := p2) (pc' := 3) hE dL_startWalks_2 rfl 2 rfl rfl ?_
  have hz := jv_xe_or h
  clear h
  rcases hz with ⟨e0, he, h⟩ | ⟨v, he, h⟩
  · subst he
    by_cases c0 : e0 = "java/lang/IllegalArgumentException"
    · rw [if_pos c0] at h
      subst c0
      cases h
      refine jv_callC (pc' := 10) hE hR hT dL_startWalks_3 lV_L_62 (okt_X7_startWalks hl0 hq) rfl rfl rfl (by decide) rfl (Nat.le_of_ble_eq_true rfl) lCa_L_startWalks_0 3 (by decide) (Or.inl ⟨3, rfl, dL_startWalks_9, rfl⟩) ?_
      refine jv_iconst (v := (1 : Int32)) (pc' := 11) hE1 dL_startWalks_10 rfl (by decide) ?_
      exact hret1 _ _ dL_startWalks_11
    rw [if_neg c0] at h
    cases h
  · subst he
    refine jv_callV (pc' := 6) (o := none) (σ' := q2) hE dL_startWalks_3 rfl lV_L_62 (ok_X7_startWalks hq) rfl rfl rfl (by decide) rfl (Nat.le_of_ble_eq_true rfl) ?_
    show jv_V E 6 [some (.ref 0), some (.int p1), some (.int p2), none] [] q2
    refine jv_goto (tgt := 12) hE dL_startWalks_6 (by decide) ?_
    refine jv_iconst (v := (0 : Int32)) (pc' := 13) hE dL_startWalks_12 rfl (by decide) ?_
    cases h
    exact hret _ _ dL_startWalks_13
noncomputable def f_L_nextWalk (σ : jv_S) : Option (Int32 × jv_S) := jv_bd (f_X7_nextWalk σ) (fun q => (fun (q1 : Except String Int32) (q2 : jv_S) => jv_xe q1 (fun e => if e = "java/lang/IllegalStateException" then some ((1 : Int32), q2) else (if e = "java/util/NoSuchElementException" then some ((2 : Int32), q2) else (none))) (fun v => some ((0 : Int32), jv_sl q2 61 (0 : Int32).toNatClampNeg v.toInt64))) q.1 q.2)
theorem lCa_L_nextWalk_0 : jv_Ca [(0, 8, 11, 19), (0, 8, 14, 39)] 3 "java/lang/IllegalStateException" 11 := ⟨[], (⟨0, 8, 11, 19⟩ : ExceptionTableEntry), [(⟨0, 8, 14, 39⟩ : ExceptionTableEntry)], "java/lang/IllegalStateException", rfl, (fun z hz => nomatch hz), by decide, by decide, jv_w (jv_tb 392 (by decide +kernel)) rfl, jv_tb 417 (by decide +kernel), rfl⟩
theorem lCa_L_nextWalk_1 : jv_Ca [(0, 8, 11, 19), (0, 8, 14, 39)] 3 "java/util/NoSuchElementException" 14 := ⟨[(⟨0, 8, 11, 19⟩ : ExceptionTableEntry)], (⟨0, 8, 14, 39⟩ : ExceptionTableEntry), [], "java/util/NoSuchElementException", rfl, (fun z hz => Or.inr (by rw [List.mem_singleton.mp hz]; exact ⟨by decide, "java/lang/IllegalStateException", jv_w (jv_tb 392 (by decide +kernel)) rfl, by decide +kernel⟩)), by decide, by decide, jv_w (jv_tb 502 (by decide +kernel)) rfl, jv_tb 538 (by decide +kernel), rfl⟩
set_option maxRecDepth 100000 in
set_option maxHeartbeats 4000000 in
theorem ok_L_nextWalk {G : jv_G} {l : Launch} (hl0 : l.stackTraces = false) {σ : jv_S} {r : Int32 × jv_S} (h : f_L_nextWalk σ  = some r) : jv_Cw G l 6 M_L_nextWalk [(0, 8, 11, 19), (0, 8, 14, 39)] [.ref 0, .ref 61] σ (some (.int r.1)) r.2 := by
  refine jv_ofW (L0 := [some (.ref 0), some (.ref 61), none]) (by decide +kernel) (Nat.le_of_ble_eq_true rfl) rfl rfl (fun E e1 e2 hE hR hT hret hret1 => ?_)
  subst e1; subst e2
  unfold f_L_nextWalk at h
  have hE1 := jv_Cx1 hE hR
  obtain ⟨⟨q1, q2⟩, hq, h⟩ := jv_bd_some h
  dsimp only at h
  refine jv_aload_n (x := 61) (pc' := 1) hE dL_nextWalk_0 rfl 1 rfl rfl ?_
  refine jv_iconst (v := (0 : Int32)) (pc' := 2) hE dL_nextWalk_1 rfl (by decide) ?_
  refine jv_aload_n (x := 0) (pc' := 3) hE dL_nextWalk_2 rfl 0 rfl rfl ?_
  have hz := jv_xe_or h
  clear h
  rcases hz with ⟨e0, he, h⟩ | ⟨v, he, h⟩
  · subst he
    by_cases c0 : e0 = "java/lang/IllegalStateException"
    · rw [if_pos c0] at h
      subst c0
      cases h
      refine jv_callC (pc' := 12) hE hR hT dL_nextWalk_3 lV_L_65 (okt_X7_nextWalk hl0 hq) rfl rfl rfl (by decide) rfl (Nat.le_of_ble_eq_true rfl) lCa_L_nextWalk_0 2 (by decide) (Or.inl ⟨2, rfl, dL_nextWalk_11, rfl⟩) ?_
      refine jv_iconst (v := (1 : Int32)) (pc' := 13) hE1 dL_nextWalk_12 rfl (by decide) ?_
      exact hret1 _ _ dL_nextWalk_13
    rw [if_neg c0] at h
    by_cases c1 : e0 = "java/util/NoSuchElementException"
    · rw [if_pos c1] at h
      subst c1
      cases h
      refine jv_callC (pc' := 15) hE hR hT dL_nextWalk_3 lV_L_65 (okt_X7_nextWalk hl0 hq) rfl rfl rfl (by decide) rfl (Nat.le_of_ble_eq_true rfl) lCa_L_nextWalk_1 2 (by decide) (Or.inl ⟨2, rfl, dL_nextWalk_14, rfl⟩) ?_
      refine jv_iconst (v := (2 : Int32)) (pc' := 16) hE1 dL_nextWalk_15 rfl (by decide) ?_
      exact hret1 _ _ dL_nextWalk_16
    rw [if_neg c1] at h
    cases h
  · subst he
    refine jv_callV (pc' := 6) (o := some (.int v)) (σ' := q2) hE dL_nextWalk_3 rfl lV_L_65 (ok_X7_nextWalk hq) rfl rfl rfl (by decide) rfl (Nat.le_of_ble_eq_true rfl) ?_
    show jv_V E 6 [some (.ref 0), some (.ref 61), none] [.int v, .int (0 : Int32), .ref 61] q2
    refine jv_i2l (x := v) (pc' := 7) hE dL_nextWalk_6 rfl ?_
    refine jv_last (pc' := 8) hE dL_nextWalk_7 rfl rfl (jv_ck_in (by decide)) ?_
    refine jv_goto (tgt := 17) hE dL_nextWalk_8 (by decide) ?_
    refine jv_iconst (v := (0 : Int32)) (pc' := 18) hE dL_nextWalk_17 rfl (by decide) ?_
    cases h
    exact hret _ _ dL_nextWalk_18
noncomputable def f_L_walksDrawn (σ : jv_S) : Option (Int32 × jv_S) := jv_xe (f_X7_walksDrawn σ) (fun e => if e = "java/lang/IllegalStateException" then some ((1 : Int32), σ) else (none)) (fun v => some ((0 : Int32), jv_sl σ 61 (0 : Int32).toNatClampNeg v.toInt64))
theorem lCa_L_walksDrawn_0 : jv_Ca [(0, 8, 11, 19)] 3 "java/lang/IllegalStateException" 11 := ⟨[], (⟨0, 8, 11, 19⟩ : ExceptionTableEntry), [], "java/lang/IllegalStateException", rfl, (fun z hz => nomatch hz), by decide, by decide, jv_w (jv_tb 392 (by decide +kernel)) rfl, jv_tb 417 (by decide +kernel), rfl⟩
set_option maxRecDepth 100000 in
set_option maxHeartbeats 4000000 in
theorem ok_L_walksDrawn {G : jv_G} {l : Launch} (hl0 : l.stackTraces = false) {σ : jv_S} {r : Int32 × jv_S} (h : f_L_walksDrawn σ  = some r) : jv_Cw G l 3 M_L_walksDrawn [(0, 8, 11, 19)] [.ref 0, .ref 61] σ (some (.int r.1)) r.2 := by
  refine jv_ofW (L0 := [some (.ref 0), some (.ref 61), none]) (by decide +kernel) (Nat.le_of_ble_eq_true rfl) rfl rfl (fun E e1 e2 hE hR hT hret hret1 => ?_)
  subst e1; subst e2
  unfold f_L_walksDrawn at h
  have hE1 := jv_Cx1 hE hR
  refine jv_aload_n (x := 61) (pc' := 1) hE dL_walksDrawn_0 rfl 1 rfl rfl ?_
  refine jv_iconst (v := (0 : Int32)) (pc' := 2) hE dL_walksDrawn_1 rfl (by decide) ?_
  refine jv_aload_n (x := 0) (pc' := 3) hE dL_walksDrawn_2 rfl 0 rfl rfl ?_
  have hz := jv_xe_or h
  clear h
  rcases hz with ⟨e0, he, h⟩ | ⟨v, he, h⟩
  · have hq := he
    by_cases c0 : e0 = "java/lang/IllegalStateException"
    · rw [if_pos c0] at h
      subst c0
      cases h
      refine jv_callC (pc' := 12) hE hR hT dL_walksDrawn_3 lV_L_68 (okt_X7_walksDrawn hl0 hq) rfl rfl rfl (by decide) rfl (Nat.le_of_ble_eq_true rfl) lCa_L_walksDrawn_0 2 (by decide) (Or.inl ⟨2, rfl, dL_walksDrawn_11, rfl⟩) ?_
      refine jv_iconst (v := (1 : Int32)) (pc' := 13) hE1 dL_walksDrawn_12 rfl (by decide) ?_
      exact hret1 _ _ dL_walksDrawn_13
    rw [if_neg c0] at h
    cases h
  · have hq := he
    refine jv_callV (pc' := 6) (o := some (.int v)) (σ' := σ) hE dL_walksDrawn_3 rfl lV_L_68 (ok_X7_walksDrawn hq) rfl rfl rfl (by decide) rfl (Nat.le_of_ble_eq_true rfl) ?_
    show jv_V E 6 [some (.ref 0), some (.ref 61), none] [.int v, .int (0 : Int32), .ref 61] σ
    refine jv_i2l (x := v) (pc' := 7) hE dL_walksDrawn_6 rfl ?_
    refine jv_last (pc' := 8) hE dL_walksDrawn_7 rfl rfl (jv_ck_in (by decide)) ?_
    refine jv_goto (tgt := 14) hE dL_walksDrawn_8 (by decide) ?_
    refine jv_iconst (v := (0 : Int32)) (pc' := 15) hE dL_walksDrawn_14 rfl (by decide) ?_
    cases h
    exact hret _ _ dL_walksDrawn_15
noncomputable def f_L_walkEdges (σ : jv_S) : Option (Int32 × jv_S) := jv_xe (f_X7_walkEdges σ) (fun e => if e = "java/lang/IllegalStateException" then some ((1 : Int32), σ) else (if e = "java/util/NoSuchElementException" then some ((2 : Int32), σ) else (none))) (fun v => some ((0 : Int32), jv_sl σ 61 (0 : Int32).toNatClampNeg v.toInt64))
theorem lCa_L_walkEdges_0 : jv_Ca [(0, 8, 11, 19), (0, 8, 14, 39)] 3 "java/lang/IllegalStateException" 11 := ⟨[], (⟨0, 8, 11, 19⟩ : ExceptionTableEntry), [(⟨0, 8, 14, 39⟩ : ExceptionTableEntry)], "java/lang/IllegalStateException", rfl, (fun z hz => nomatch hz), by decide, by decide, jv_w (jv_tb 392 (by decide +kernel)) rfl, jv_tb 417 (by decide +kernel), rfl⟩
theorem lCa_L_walkEdges_1 : jv_Ca [(0, 8, 11, 19), (0, 8, 14, 39)] 3 "java/util/NoSuchElementException" 14 := ⟨[(⟨0, 8, 11, 19⟩ : ExceptionTableEntry)], (⟨0, 8, 14, 39⟩ : ExceptionTableEntry), [], "java/util/NoSuchElementException", rfl, (fun z hz => Or.inr (by rw [List.mem_singleton.mp hz]; exact ⟨by decide, "java/lang/IllegalStateException", jv_w (jv_tb 392 (by decide +kernel)) rfl, by decide +kernel⟩)), by decide, by decide, jv_w (jv_tb 502 (by decide +kernel)) rfl, jv_tb 538 (by decide +kernel), rfl⟩
set_option maxRecDepth 100000 in
set_option maxHeartbeats 4000000 in
theorem ok_L_walkEdges {G : jv_G} {l : Launch} (hl0 : l.stackTraces = false) {σ : jv_S} {r : Int32 × jv_S} (h : f_L_walkEdges σ  = some r) : jv_Cw G l 5 M_L_walkEdges [(0, 8, 11, 19), (0, 8, 14, 39)] [.ref 0, .ref 61] σ (some (.int r.1)) r.2 := by
  refine jv_ofW (L0 := [some (.ref 0), some (.ref 61), none]) (by decide +kernel) (Nat.le_of_ble_eq_true rfl) rfl rfl (fun E e1 e2 hE hR hT hret hret1 => ?_)
  subst e1; subst e2
  unfold f_L_walkEdges at h
  have hE1 := jv_Cx1 hE hR
  refine jv_aload_n (x := 61) (pc' := 1) hE dL_walkEdges_0 rfl 1 rfl rfl ?_
  refine jv_iconst (v := (0 : Int32)) (pc' := 2) hE dL_walkEdges_1 rfl (by decide) ?_
  refine jv_aload_n (x := 0) (pc' := 3) hE dL_walkEdges_2 rfl 0 rfl rfl ?_
  have hz := jv_xe_or h
  clear h
  rcases hz with ⟨e0, he, h⟩ | ⟨v, he, h⟩
  · have hq := he
    by_cases c0 : e0 = "java/lang/IllegalStateException"
    · rw [if_pos c0] at h
      subst c0
      cases h
      refine jv_callC (pc' := 12) hE hR hT dL_walkEdges_3 lV_L_71 (okt_X7_walkEdges hl0 hq) rfl rfl rfl (by decide) rfl (Nat.le_of_ble_eq_true rfl) lCa_L_walkEdges_0 2 (by decide) (Or.inl ⟨2, rfl, dL_walkEdges_11, rfl⟩) ?_
      refine jv_iconst (v := (1 : Int32)) (pc' := 13) hE1 dL_walkEdges_12 rfl (by decide) ?_
      exact hret1 _ _ dL_walkEdges_13
    rw [if_neg c0] at h
    by_cases c1 : e0 = "java/util/NoSuchElementException"
    · rw [if_pos c1] at h
      subst c1
      cases h
      refine jv_callC (pc' := 15) hE hR hT dL_walkEdges_3 lV_L_71 (okt_X7_walkEdges hl0 hq) rfl rfl rfl (by decide) rfl (Nat.le_of_ble_eq_true rfl) lCa_L_walkEdges_1 2 (by decide) (Or.inl ⟨2, rfl, dL_walkEdges_14, rfl⟩) ?_
      refine jv_iconst (v := (2 : Int32)) (pc' := 16) hE1 dL_walkEdges_15 rfl (by decide) ?_
      exact hret1 _ _ dL_walkEdges_16
    rw [if_neg c1] at h
    cases h
  · have hq := he
    refine jv_callV (pc' := 6) (o := some (.int v)) (σ' := σ) hE dL_walkEdges_3 rfl lV_L_71 (ok_X7_walkEdges hq) rfl rfl rfl (by decide) rfl (Nat.le_of_ble_eq_true rfl) ?_
    show jv_V E 6 [some (.ref 0), some (.ref 61), none] [.int v, .int (0 : Int32), .ref 61] σ
    refine jv_i2l (x := v) (pc' := 7) hE dL_walkEdges_6 rfl ?_
    refine jv_last (pc' := 8) hE dL_walkEdges_7 rfl rfl (jv_ck_in (by decide)) ?_
    refine jv_goto (tgt := 17) hE dL_walkEdges_8 (by decide) ?_
    refine jv_iconst (v := (0 : Int32)) (pc' := 18) hE dL_walkEdges_17 rfl (by decide) ?_
    cases h
    exact hret _ _ dL_walkEdges_18
noncomputable def f_L_walkEdge (σ : jv_S) (p1 : Int32) : Option (Int32 × jv_S) := jv_bd (f_X7_walkEdge σ p1) (fun q1 => jv_xe q1 (fun e => if e = "java/lang/IllegalStateException" then some ((1 : Int32), σ) else (if e = "java/util/NoSuchElementException" then some ((2 : Int32), σ) else (none))) (fun v => some ((0 : Int32), jv_sl σ 61 (0 : Int32).toNatClampNeg v.toInt64)))
theorem lCa_L_walkEdge_0 : jv_Ca [(0, 9, 12, 19), (0, 9, 15, 39)] 4 "java/lang/IllegalStateException" 12 := ⟨[], (⟨0, 9, 12, 19⟩ : ExceptionTableEntry), [(⟨0, 9, 15, 39⟩ : ExceptionTableEntry)], "java/lang/IllegalStateException", rfl, (fun z hz => nomatch hz), by decide, by decide, jv_w (jv_tb 392 (by decide +kernel)) rfl, jv_tb 417 (by decide +kernel), rfl⟩
theorem lCa_L_walkEdge_1 : jv_Ca [(0, 9, 12, 19), (0, 9, 15, 39)] 4 "java/util/NoSuchElementException" 15 := ⟨[(⟨0, 9, 12, 19⟩ : ExceptionTableEntry)], (⟨0, 9, 15, 39⟩ : ExceptionTableEntry), [], "java/util/NoSuchElementException", rfl, (fun z hz => Or.inr (by rw [List.mem_singleton.mp hz]; exact ⟨by decide, "java/lang/IllegalStateException", jv_w (jv_tb 392 (by decide +kernel)) rfl, by decide +kernel⟩)), by decide, by decide, jv_w (jv_tb 502 (by decide +kernel)) rfl, jv_tb 538 (by decide +kernel), rfl⟩
set_option maxRecDepth 100000 in
set_option maxHeartbeats 4000000 in
theorem ok_L_walkEdge {G : jv_G} {l : Launch} (hl0 : l.stackTraces = false) {σ : jv_S} {p1 : Int32} {r : Int32 × jv_S} (h : f_L_walkEdge σ p1 = some r) : jv_Cw G l 6 M_L_walkEdge [(0, 9, 12, 19), (0, 9, 15, 39)] [.ref 0, .int p1, .ref 61] σ (some (.int r.1)) r.2 := by
  refine jv_ofW (L0 := [some (.ref 0), some (.int p1), some (.ref 61), none]) (by decide +kernel) (Nat.le_of_ble_eq_true rfl) rfl rfl (fun E e1 e2 hE hR hT hret hret1 => ?_)
  subst e1; subst e2
  unfold f_L_walkEdge at h
  have hE1 := jv_Cx1 hE hR
  obtain ⟨q1, hq, h⟩ := jv_bd_some h
  refine jv_aload_n (x := 61) (pc' := 1) hE dL_walkEdge_0 rfl 2 rfl rfl ?_
  refine jv_iconst (v := (0 : Int32)) (pc' := 2) hE dL_walkEdge_1 rfl (by decide) ?_
  refine jv_aload_n (x := 0) (pc' := 3) hE dL_walkEdge_2 rfl 0 rfl rfl ?_
  refine jv_iload_n (x := p1) (pc' := 4) hE dL_walkEdge_3 rfl 1 rfl rfl ?_
  have hz := jv_xe_or h
  clear h
  rcases hz with ⟨e0, he, h⟩ | ⟨v, he, h⟩
  · subst he
    by_cases c0 : e0 = "java/lang/IllegalStateException"
    · rw [if_pos c0] at h
      subst c0
      cases h
      refine jv_callC (pc' := 13) hE hR hT dL_walkEdge_4 lV_L_74 (okt_X7_walkEdge hl0 hq) rfl rfl rfl (by decide) rfl (Nat.le_of_ble_eq_true rfl) lCa_L_walkEdge_0 3 (by decide) (Or.inl ⟨3, rfl, dL_walkEdge_12, rfl⟩) ?_
      refine jv_iconst (v := (1 : Int32)) (pc' := 14) hE1 dL_walkEdge_13 rfl (by decide) ?_
      exact hret1 _ _ dL_walkEdge_14
    rw [if_neg c0] at h
    by_cases c1 : e0 = "java/util/NoSuchElementException"
    · rw [if_pos c1] at h
      subst c1
      cases h
      refine jv_callC (pc' := 16) hE hR hT dL_walkEdge_4 lV_L_74 (okt_X7_walkEdge hl0 hq) rfl rfl rfl (by decide) rfl (Nat.le_of_ble_eq_true rfl) lCa_L_walkEdge_1 3 (by decide) (Or.inl ⟨3, rfl, dL_walkEdge_15, rfl⟩) ?_
      refine jv_iconst (v := (2 : Int32)) (pc' := 17) hE1 dL_walkEdge_16 rfl (by decide) ?_
      exact hret1 _ _ dL_walkEdge_17
    rw [if_neg c1] at h
    cases h
  · subst he
    refine jv_callV (pc' := 7) (o := some (.int v)) (σ' := σ) hE dL_walkEdge_4 rfl lV_L_74 (ok_X7_walkEdge hq) rfl rfl rfl (by decide) rfl (Nat.le_of_ble_eq_true rfl) ?_
    show jv_V E 7 [some (.ref 0), some (.int p1), some (.ref 61), none] [.int v, .int (0 : Int32), .ref 61] σ
    refine jv_i2l (x := v) (pc' := 8) hE dL_walkEdge_7 rfl ?_
    refine jv_last (pc' := 9) hE dL_walkEdge_8 rfl rfl (jv_ck_in (by decide)) ?_
    refine jv_goto (tgt := 18) hE dL_walkEdge_9 (by decide) ?_
    refine jv_iconst (v := (0 : Int32)) (pc' := 19) hE dL_walkEdge_18 rfl (by decide) ?_
    cases h
    exact hret _ _ dL_walkEdge_19
noncomputable def f_L_disjointPaths (σ : jv_S) (p1 : Int32) (p2 : Int32) (p3 : Int32) : Option (Int32 × jv_S) := jv_bd (f_X7_disjointPaths σ p1 p2 p3) (fun q => (fun (q1 : Except String Int32) (q2 : jv_S) => jv_xe q1 (fun e => if e = "java/lang/IllegalArgumentException" then some ((1 : Int32), q2) else (none)) (fun v => some ((0 : Int32), jv_sl q2 61 (0 : Int32).toNatClampNeg v.toInt64))) q.1 q.2)
theorem lCa_L_disjointPaths_0 : jv_Ca [(0, 12, 15, 13)] 7 "java/lang/IllegalArgumentException" 15 := ⟨[], (⟨0, 12, 15, 13⟩ : ExceptionTableEntry), [], "java/lang/IllegalArgumentException", rfl, (fun z hz => nomatch hz), by decide, by decide, jv_w (jv_tb 280 (by decide +kernel)) rfl, jv_tb 290 (by decide +kernel), rfl⟩
set_option maxRecDepth 100000 in
set_option maxHeartbeats 4000000 in
theorem ok_L_disjointPaths {G : jv_G} {l : Launch} (hl0 : l.stackTraces = false) {σ : jv_S} {p1 : Int32} {p2 : Int32} {p3 : Int32} {r : Int32 × jv_S} (h : f_L_disjointPaths σ p1 p2 p3 = some r) : jv_Cw G l 7 M_L_disjointPaths [(0, 12, 15, 13)] [.ref 0, .int p1, .int p2, .int p3, .ref 61] σ (some (.int r.1)) r.2 := by
  refine jv_ofW (L0 := [some (.ref 0), some (.int p1), some (.int p2), some (.int p3), some (.ref 61), none]) (by decide +kernel) (Nat.le_of_ble_eq_true rfl) rfl rfl (fun E e1 e2 hE hR hT hret hret1 => ?_)
  subst e1; subst e2
  unfold f_L_disjointPaths at h
  have hE1 := jv_Cx1 hE hR
  obtain ⟨⟨q1, q2⟩, hq, h⟩ := jv_bd_some h
  dsimp only at h
  refine jv_aload (x := 61) (pc' := 2) hE dL_disjointPaths_0 rfl rfl ?_
  refine jv_iconst (v := (0 : Int32)) (pc' := 3) hE dL_disjointPaths_2 rfl (by decide) ?_
  refine jv_aload_n (x := 0) (pc' := 4) hE dL_disjointPaths_3 rfl 0 rfl rfl ?_
  refine jv_iload_n (x := p1) (pc' := 5) hE dL_disjointPaths_4 rfl 1 rfl rfl ?_
  refine jv_iload_n (x := p2) (pc' := 6) hE dL_disjointPaths_5 rfl 2 rfl rfl ?_
  refine jv_iload_n (x := p3) (pc' := 7) hE dL_disjointPaths_6 rfl 3 rfl rfl ?_
  have hz := jv_xe_or h
  clear h
  rcases hz with ⟨e0, he, h⟩ | ⟨v, he, h⟩
  · subst he
    by_cases c0 : e0 = "java/lang/IllegalArgumentException"
    · rw [if_pos c0] at h
      subst c0
      cases h
      refine jv_callC (pc' := 17) hE hR hT dL_disjointPaths_7 lV_L_77 (okt_X7_disjointPaths hl0 hq) rfl rfl rfl (by decide) rfl (Nat.le_of_ble_eq_true rfl) lCa_L_disjointPaths_0 5 (by decide) (Or.inr ⟨dL_disjointPaths_15, rfl⟩) ?_
      refine jv_iconst (v := (1 : Int32)) (pc' := 18) hE1 dL_disjointPaths_17 rfl (by decide) ?_
      exact hret1 _ _ dL_disjointPaths_18
    rw [if_neg c0] at h
    cases h
  · subst he
    refine jv_callV (pc' := 10) (o := some (.int v)) (σ' := q2) hE dL_disjointPaths_7 rfl lV_L_77 (ok_X7_disjointPaths hq) rfl rfl rfl (by decide) rfl (Nat.le_of_ble_eq_true rfl) ?_
    show jv_V E 10 [some (.ref 0), some (.int p1), some (.int p2), some (.int p3), some (.ref 61), none] [.int v, .int (0 : Int32), .ref 61] q2
    refine jv_i2l (x := v) (pc' := 11) hE dL_disjointPaths_10 rfl ?_
    refine jv_last (pc' := 12) hE dL_disjointPaths_11 rfl rfl (jv_ck_in (by decide)) ?_
    refine jv_goto (tgt := 19) hE dL_disjointPaths_12 (by decide) ?_
    refine jv_iconst (v := (0 : Int32)) (pc' := 20) hE dL_disjointPaths_19 rfl (by decide) ?_
    cases h
    exact hret _ _ dL_disjointPaths_20
noncomputable def f_L_disjointLength (σ : jv_S) (p1 : Int32) (p2 : Int32) (p3 : Int32) (p4 : Int32) : Option (Int32 × jv_S) := jv_bd (f_X7_disjointLength σ p1 p2 p3 p4) (fun q => (fun (q1 : Except String Int32) (q2 : jv_S) => jv_xe q1 (fun e => if e = "java/lang/IllegalArgumentException" then some ((1 : Int32), q2) else (if e = "java/util/NoSuchElementException" then some ((2 : Int32), q2) else (none))) (fun v => some ((0 : Int32), jv_sl q2 61 (0 : Int32).toNatClampNeg v.toInt64))) q.1 q.2)
theorem lCa_L_disjointLength_0 : jv_Ca [(0, 14, 17, 13), (0, 14, 21, 39)] 9 "java/lang/IllegalArgumentException" 17 := ⟨[], (⟨0, 14, 17, 13⟩ : ExceptionTableEntry), [(⟨0, 14, 21, 39⟩ : ExceptionTableEntry)], "java/lang/IllegalArgumentException", rfl, (fun z hz => nomatch hz), by decide, by decide, jv_w (jv_tb 280 (by decide +kernel)) rfl, jv_tb 290 (by decide +kernel), rfl⟩
theorem lCa_L_disjointLength_1 : jv_Ca [(0, 14, 17, 13), (0, 14, 21, 39)] 9 "java/util/NoSuchElementException" 21 := ⟨[(⟨0, 14, 17, 13⟩ : ExceptionTableEntry)], (⟨0, 14, 21, 39⟩ : ExceptionTableEntry), [], "java/util/NoSuchElementException", rfl, (fun z hz => Or.inr (by rw [List.mem_singleton.mp hz]; exact ⟨by decide, "java/lang/IllegalArgumentException", jv_w (jv_tb 280 (by decide +kernel)) rfl, by decide +kernel⟩)), by decide, by decide, jv_w (jv_tb 502 (by decide +kernel)) rfl, jv_tb 538 (by decide +kernel), rfl⟩
set_option maxRecDepth 100000 in
set_option maxHeartbeats 4000000 in
theorem ok_L_disjointLength {G : jv_G} {l : Launch} (hl0 : l.stackTraces = false) {σ : jv_S} {p1 : Int32} {p2 : Int32} {p3 : Int32} {p4 : Int32} {r : Int32 × jv_S} (h : f_L_disjointLength σ p1 p2 p3 p4 = some r) : jv_Cw G l 7 M_L_disjointLength [(0, 14, 17, 13), (0, 14, 21, 39)] [.ref 0, .int p1, .int p2, .int p3, .int p4, .ref 61] σ (some (.int r.1)) r.2 := by
  refine jv_ofW (L0 := [some (.ref 0), some (.int p1), some (.int p2), some (.int p3), some (.int p4), some (.ref 61), none]) (by decide +kernel) (Nat.le_of_ble_eq_true rfl) rfl rfl (fun E e1 e2 hE hR hT hret hret1 => ?_)
  subst e1; subst e2
  unfold f_L_disjointLength at h
  have hE1 := jv_Cx1 hE hR
  obtain ⟨⟨q1, q2⟩, hq, h⟩ := jv_bd_some h
  dsimp only at h
  refine jv_aload (x := 61) (pc' := 2) hE dL_disjointLength_0 rfl rfl ?_
  refine jv_iconst (v := (0 : Int32)) (pc' := 3) hE dL_disjointLength_2 rfl (by decide) ?_
  refine jv_aload_n (x := 0) (pc' := 4) hE dL_disjointLength_3 rfl 0 rfl rfl ?_
  refine jv_iload_n (x := p1) (pc' := 5) hE dL_disjointLength_4 rfl 1 rfl rfl ?_
  refine jv_iload_n (x := p2) (pc' := 6) hE dL_disjointLength_5 rfl 2 rfl rfl ?_
  refine jv_iload_n (x := p3) (pc' := 7) hE dL_disjointLength_6 rfl 3 rfl rfl ?_
  refine jv_iload (x := p4) (pc' := 9) hE dL_disjointLength_7 rfl rfl ?_
  have hz := jv_xe_or h
  clear h
  rcases hz with ⟨e0, he, h⟩ | ⟨v, he, h⟩
  · subst he
    by_cases c0 : e0 = "java/lang/IllegalArgumentException"
    · rw [if_pos c0] at h
      subst c0
      cases h
      refine jv_callC (pc' := 19) hE hR hT dL_disjointLength_9 lV_L_81 (okt_X7_disjointLength hl0 hq) rfl rfl rfl (by decide) rfl (Nat.le_of_ble_eq_true rfl) lCa_L_disjointLength_0 6 (by decide) (Or.inr ⟨dL_disjointLength_17, rfl⟩) ?_
      refine jv_iconst (v := (1 : Int32)) (pc' := 20) hE1 dL_disjointLength_19 rfl (by decide) ?_
      exact hret1 _ _ dL_disjointLength_20
    rw [if_neg c0] at h
    by_cases c1 : e0 = "java/util/NoSuchElementException"
    · rw [if_pos c1] at h
      subst c1
      cases h
      refine jv_callC (pc' := 23) hE hR hT dL_disjointLength_9 lV_L_81 (okt_X7_disjointLength hl0 hq) rfl rfl rfl (by decide) rfl (Nat.le_of_ble_eq_true rfl) lCa_L_disjointLength_1 6 (by decide) (Or.inr ⟨dL_disjointLength_21, rfl⟩) ?_
      refine jv_iconst (v := (2 : Int32)) (pc' := 24) hE1 dL_disjointLength_23 rfl (by decide) ?_
      exact hret1 _ _ dL_disjointLength_24
    rw [if_neg c1] at h
    cases h
  · subst he
    refine jv_callV (pc' := 12) (o := some (.int v)) (σ' := q2) hE dL_disjointLength_9 rfl lV_L_81 (ok_X7_disjointLength hq) rfl rfl rfl (by decide) rfl (Nat.le_of_ble_eq_true rfl) ?_
    show jv_V E 12 [some (.ref 0), some (.int p1), some (.int p2), some (.int p3), some (.int p4), some (.ref 61), none] [.int v, .int (0 : Int32), .ref 61] q2
    refine jv_i2l (x := v) (pc' := 13) hE dL_disjointLength_12 rfl ?_
    refine jv_last (pc' := 14) hE dL_disjointLength_13 rfl rfl (jv_ck_in (by decide)) ?_
    refine jv_goto (tgt := 25) hE dL_disjointLength_14 (by decide) ?_
    refine jv_iconst (v := (0 : Int32)) (pc' := 26) hE dL_disjointLength_25 rfl (by decide) ?_
    cases h
    exact hret _ _ dL_disjointLength_26
noncomputable def f_L_allowedLength (σ : jv_S) (p1 : Int32) (p2 : Int32) : Option (Int32 × jv_S) := jv_bd (f_X7_allowedLength σ p1 p2) (fun q => (fun (q1 : Except String Int32) (q2 : jv_S) => jv_xe q1 (fun e => if e = "java/lang/IllegalArgumentException" then some ((1 : Int32), q2) else (if e = "java/util/NoSuchElementException" then some ((2 : Int32), q2) else (none))) (fun v => some ((0 : Int32), jv_sl q2 61 (0 : Int32).toNatClampNeg v.toInt64))) q.1 q.2)
theorem lCa_L_allowedLength_0 : jv_Ca [(0, 10, 13, 13), (0, 10, 17, 39)] 5 "java/lang/IllegalArgumentException" 13 := ⟨[], (⟨0, 10, 13, 13⟩ : ExceptionTableEntry), [(⟨0, 10, 17, 39⟩ : ExceptionTableEntry)], "java/lang/IllegalArgumentException", rfl, (fun z hz => nomatch hz), by decide, by decide, jv_w (jv_tb 280 (by decide +kernel)) rfl, jv_tb 290 (by decide +kernel), rfl⟩
theorem lCa_L_allowedLength_1 : jv_Ca [(0, 10, 13, 13), (0, 10, 17, 39)] 5 "java/util/NoSuchElementException" 17 := ⟨[(⟨0, 10, 13, 13⟩ : ExceptionTableEntry)], (⟨0, 10, 17, 39⟩ : ExceptionTableEntry), [], "java/util/NoSuchElementException", rfl, (fun z hz => Or.inr (by rw [List.mem_singleton.mp hz]; exact ⟨by decide, "java/lang/IllegalArgumentException", jv_w (jv_tb 280 (by decide +kernel)) rfl, by decide +kernel⟩)), by decide, by decide, jv_w (jv_tb 502 (by decide +kernel)) rfl, jv_tb 538 (by decide +kernel), rfl⟩
set_option maxRecDepth 100000 in
set_option maxHeartbeats 4000000 in
theorem ok_L_allowedLength {G : jv_G} {l : Launch} (hl0 : l.stackTraces = false) {σ : jv_S} {p1 : Int32} {p2 : Int32} {r : Int32 × jv_S} (h : f_L_allowedLength σ p1 p2 = some r) : jv_Cw G l 8 M_L_allowedLength [(0, 10, 13, 13), (0, 10, 17, 39)] [.ref 0, .int p1, .int p2, .ref 61] σ (some (.int r.1)) r.2 := by
  refine jv_ofW (L0 := [some (.ref 0), some (.int p1), some (.int p2), some (.ref 61), none]) (by decide +kernel) (Nat.le_of_ble_eq_true rfl) rfl rfl (fun E e1 e2 hE hR hT hret hret1 => ?_)
  subst e1; subst e2
  unfold f_L_allowedLength at h
  have hE1 := jv_Cx1 hE hR
  obtain ⟨⟨q1, q2⟩, hq, h⟩ := jv_bd_some h
  dsimp only at h
  refine jv_aload_n (x := 61) (pc' := 1) hE dL_allowedLength_0 rfl 3 rfl rfl ?_
  refine jv_iconst (v := (0 : Int32)) (pc' := 2) hE dL_allowedLength_1 rfl (by decide) ?_
  refine jv_aload_n (x := 0) (pc' := 3) hE dL_allowedLength_2 rfl 0 rfl rfl ?_
  refine jv_iload_n (x := p1) (pc' := 4) hE dL_allowedLength_3 rfl 1 rfl rfl ?_
  refine jv_iload_n (x := p2) (pc' := 5) hE dL_allowedLength_4 rfl 2 rfl rfl ?_
  have hz := jv_xe_or h
  clear h
  rcases hz with ⟨e0, he, h⟩ | ⟨v, he, h⟩
  · subst he
    by_cases c0 : e0 = "java/lang/IllegalArgumentException"
    · rw [if_pos c0] at h
      subst c0
      cases h
      refine jv_callC (pc' := 15) hE hR hT dL_allowedLength_5 lV_L_85 (okt_X7_allowedLength hl0 hq) rfl rfl rfl (by decide) rfl (Nat.le_of_ble_eq_true rfl) lCa_L_allowedLength_0 4 (by decide) (Or.inr ⟨dL_allowedLength_13, rfl⟩) ?_
      refine jv_iconst (v := (1 : Int32)) (pc' := 16) hE1 dL_allowedLength_15 rfl (by decide) ?_
      exact hret1 _ _ dL_allowedLength_16
    rw [if_neg c0] at h
    by_cases c1 : e0 = "java/util/NoSuchElementException"
    · rw [if_pos c1] at h
      subst c1
      cases h
      refine jv_callC (pc' := 19) hE hR hT dL_allowedLength_5 lV_L_85 (okt_X7_allowedLength hl0 hq) rfl rfl rfl (by decide) rfl (Nat.le_of_ble_eq_true rfl) lCa_L_allowedLength_1 4 (by decide) (Or.inr ⟨dL_allowedLength_17, rfl⟩) ?_
      refine jv_iconst (v := (2 : Int32)) (pc' := 20) hE1 dL_allowedLength_19 rfl (by decide) ?_
      exact hret1 _ _ dL_allowedLength_20
    rw [if_neg c1] at h
    cases h
  · subst he
    refine jv_callV (pc' := 8) (o := some (.int v)) (σ' := q2) hE dL_allowedLength_5 rfl lV_L_85 (ok_X7_allowedLength hq) rfl rfl rfl (by decide) rfl (Nat.le_of_ble_eq_true rfl) ?_
    show jv_V E 8 [some (.ref 0), some (.int p1), some (.int p2), some (.ref 61), none] [.int v, .int (0 : Int32), .ref 61] q2
    refine jv_i2l (x := v) (pc' := 9) hE dL_allowedLength_8 rfl ?_
    refine jv_last (pc' := 10) hE dL_allowedLength_9 rfl rfl (jv_ck_in (by decide)) ?_
    refine jv_goto (tgt := 21) hE dL_allowedLength_10 (by decide) ?_
    refine jv_iconst (v := (0 : Int32)) (pc' := 22) hE dL_allowedLength_21 rfl (by decide) ?_
    cases h
    exact hret _ _ dL_allowedLength_22
noncomputable def f_L_allowedEdges (σ : jv_S) (p1 : Int32) (p2 : Int32) : Option (Int32 × jv_S) := jv_bd (f_X7_allowedEdges σ p1 p2) (fun q => (fun (q1 : Except String Int32) (q2 : jv_S) => jv_xe q1 (fun e => if e = "java/lang/IllegalArgumentException" then some ((1 : Int32), q2) else (if e = "java/util/NoSuchElementException" then some ((2 : Int32), q2) else (none))) (fun v => some ((0 : Int32), jv_sl q2 61 (0 : Int32).toNatClampNeg v.toInt64))) q.1 q.2)
theorem lCa_L_allowedEdges_0 : jv_Ca [(0, 10, 13, 13), (0, 10, 17, 39)] 5 "java/lang/IllegalArgumentException" 13 := ⟨[], (⟨0, 10, 13, 13⟩ : ExceptionTableEntry), [(⟨0, 10, 17, 39⟩ : ExceptionTableEntry)], "java/lang/IllegalArgumentException", rfl, (fun z hz => nomatch hz), by decide, by decide, jv_w (jv_tb 280 (by decide +kernel)) rfl, jv_tb 290 (by decide +kernel), rfl⟩
theorem lCa_L_allowedEdges_1 : jv_Ca [(0, 10, 13, 13), (0, 10, 17, 39)] 5 "java/util/NoSuchElementException" 17 := ⟨[(⟨0, 10, 13, 13⟩ : ExceptionTableEntry)], (⟨0, 10, 17, 39⟩ : ExceptionTableEntry), [], "java/util/NoSuchElementException", rfl, (fun z hz => Or.inr (by rw [List.mem_singleton.mp hz]; exact ⟨by decide, "java/lang/IllegalArgumentException", jv_w (jv_tb 280 (by decide +kernel)) rfl, by decide +kernel⟩)), by decide, by decide, jv_w (jv_tb 502 (by decide +kernel)) rfl, jv_tb 538 (by decide +kernel), rfl⟩
set_option maxRecDepth 100000 in
set_option maxHeartbeats 4000000 in
theorem ok_L_allowedEdges {G : jv_G} {l : Launch} (hl0 : l.stackTraces = false) {σ : jv_S} {p1 : Int32} {p2 : Int32} {r : Int32 × jv_S} (h : f_L_allowedEdges σ p1 p2 = some r) : jv_Cw G l 8 M_L_allowedEdges [(0, 10, 13, 13), (0, 10, 17, 39)] [.ref 0, .int p1, .int p2, .ref 61] σ (some (.int r.1)) r.2 := by
  refine jv_ofW (L0 := [some (.ref 0), some (.int p1), some (.int p2), some (.ref 61), none]) (by decide +kernel) (Nat.le_of_ble_eq_true rfl) rfl rfl (fun E e1 e2 hE hR hT hret hret1 => ?_)
  subst e1; subst e2
  unfold f_L_allowedEdges at h
  have hE1 := jv_Cx1 hE hR
  obtain ⟨⟨q1, q2⟩, hq, h⟩ := jv_bd_some h
  dsimp only at h
  refine jv_aload_n (x := 61) (pc' := 1) hE dL_allowedEdges_0 rfl 3 rfl rfl ?_
  refine jv_iconst (v := (0 : Int32)) (pc' := 2) hE dL_allowedEdges_1 rfl (by decide) ?_
  refine jv_aload_n (x := 0) (pc' := 3) hE dL_allowedEdges_2 rfl 0 rfl rfl ?_
  refine jv_iload_n (x := p1) (pc' := 4) hE dL_allowedEdges_3 rfl 1 rfl rfl ?_
  refine jv_iload_n (x := p2) (pc' := 5) hE dL_allowedEdges_4 rfl 2 rfl rfl ?_
  have hz := jv_xe_or h
  clear h
  rcases hz with ⟨e0, he, h⟩ | ⟨v, he, h⟩
  · subst he
    by_cases c0 : e0 = "java/lang/IllegalArgumentException"
    · rw [if_pos c0] at h
      subst c0
      cases h
      refine jv_callC (pc' := 15) hE hR hT dL_allowedEdges_5 lV_L_88 (okt_X7_allowedEdges hl0 hq) rfl rfl rfl (by decide) rfl (Nat.le_of_ble_eq_true rfl) lCa_L_allowedEdges_0 4 (by decide) (Or.inr ⟨dL_allowedEdges_13, rfl⟩) ?_
      refine jv_iconst (v := (1 : Int32)) (pc' := 16) hE1 dL_allowedEdges_15 rfl (by decide) ?_
      exact hret1 _ _ dL_allowedEdges_16
    rw [if_neg c0] at h
    by_cases c1 : e0 = "java/util/NoSuchElementException"
    · rw [if_pos c1] at h
      subst c1
      cases h
      refine jv_callC (pc' := 19) hE hR hT dL_allowedEdges_5 lV_L_88 (okt_X7_allowedEdges hl0 hq) rfl rfl rfl (by decide) rfl (Nat.le_of_ble_eq_true rfl) lCa_L_allowedEdges_1 4 (by decide) (Or.inr ⟨dL_allowedEdges_17, rfl⟩) ?_
      refine jv_iconst (v := (2 : Int32)) (pc' := 20) hE1 dL_allowedEdges_19 rfl (by decide) ?_
      exact hret1 _ _ dL_allowedEdges_20
    rw [if_neg c1] at h
    cases h
  · subst he
    refine jv_callV (pc' := 8) (o := some (.int v)) (σ' := q2) hE dL_allowedEdges_5 rfl lV_L_88 (ok_X7_allowedEdges hq) rfl rfl rfl (by decide) rfl (Nat.le_of_ble_eq_true rfl) ?_
    show jv_V E 8 [some (.ref 0), some (.int p1), some (.int p2), some (.ref 61), none] [.int v, .int (0 : Int32), .ref 61] q2
    refine jv_i2l (x := v) (pc' := 9) hE dL_allowedEdges_8 rfl ?_
    refine jv_last (pc' := 10) hE dL_allowedEdges_9 rfl rfl (jv_ck_in (by decide)) ?_
    refine jv_goto (tgt := 21) hE dL_allowedEdges_10 (by decide) ?_
    refine jv_iconst (v := (0 : Int32)) (pc' := 22) hE dL_allowedEdges_21 rfl (by decide) ?_
    cases h
    exact hret _ _ dL_allowedEdges_22
noncomputable def f_L_allowedEdge (σ : jv_S) (p1 : Int32) (p2 : Int32) (p3 : Int32) : Option (Int32 × jv_S) := jv_bd (f_X7_allowedEdge σ p1 p2 p3) (fun q => (fun (q1 : Except String Int32) (q2 : jv_S) => jv_xe q1 (fun e => if e = "java/lang/IllegalArgumentException" then some ((1 : Int32), q2) else (if e = "java/util/NoSuchElementException" then some ((2 : Int32), q2) else (none))) (fun v => some ((0 : Int32), jv_sl q2 61 (0 : Int32).toNatClampNeg v.toInt64))) q.1 q.2)
theorem lCa_L_allowedEdge_0 : jv_Ca [(0, 12, 15, 13), (0, 12, 19, 39)] 7 "java/lang/IllegalArgumentException" 15 := ⟨[], (⟨0, 12, 15, 13⟩ : ExceptionTableEntry), [(⟨0, 12, 19, 39⟩ : ExceptionTableEntry)], "java/lang/IllegalArgumentException", rfl, (fun z hz => nomatch hz), by decide, by decide, jv_w (jv_tb 280 (by decide +kernel)) rfl, jv_tb 290 (by decide +kernel), rfl⟩
theorem lCa_L_allowedEdge_1 : jv_Ca [(0, 12, 15, 13), (0, 12, 19, 39)] 7 "java/util/NoSuchElementException" 19 := ⟨[(⟨0, 12, 15, 13⟩ : ExceptionTableEntry)], (⟨0, 12, 19, 39⟩ : ExceptionTableEntry), [], "java/util/NoSuchElementException", rfl, (fun z hz => Or.inr (by rw [List.mem_singleton.mp hz]; exact ⟨by decide, "java/lang/IllegalArgumentException", jv_w (jv_tb 280 (by decide +kernel)) rfl, by decide +kernel⟩)), by decide, by decide, jv_w (jv_tb 502 (by decide +kernel)) rfl, jv_tb 538 (by decide +kernel), rfl⟩
set_option maxRecDepth 100000 in
set_option maxHeartbeats 4000000 in
theorem ok_L_allowedEdge {G : jv_G} {l : Launch} (hl0 : l.stackTraces = false) {σ : jv_S} {p1 : Int32} {p2 : Int32} {p3 : Int32} {r : Int32 × jv_S} (h : f_L_allowedEdge σ p1 p2 p3 = some r) : jv_Cw G l 8 M_L_allowedEdge [(0, 12, 15, 13), (0, 12, 19, 39)] [.ref 0, .int p1, .int p2, .int p3, .ref 61] σ (some (.int r.1)) r.2 := by
  refine jv_ofW (L0 := [some (.ref 0), some (.int p1), some (.int p2), some (.int p3), some (.ref 61), none]) (by decide +kernel) (Nat.le_of_ble_eq_true rfl) rfl rfl (fun E e1 e2 hE hR hT hret hret1 => ?_)
  subst e1; subst e2
  unfold f_L_allowedEdge at h
  have hE1 := jv_Cx1 hE hR
  obtain ⟨⟨q1, q2⟩, hq, h⟩ := jv_bd_some h
  dsimp only at h
  refine jv_aload (x := 61) (pc' := 2) hE dL_allowedEdge_0 rfl rfl ?_
  refine jv_iconst (v := (0 : Int32)) (pc' := 3) hE dL_allowedEdge_2 rfl (by decide) ?_
  refine jv_aload_n (x := 0) (pc' := 4) hE dL_allowedEdge_3 rfl 0 rfl rfl ?_
  refine jv_iload_n (x := p1) (pc' := 5) hE dL_allowedEdge_4 rfl 1 rfl rfl ?_
  refine jv_iload_n (x := p2) (pc' := 6) hE dL_allowedEdge_5 rfl 2 rfl rfl ?_
  refine jv_iload_n (x := p3) (pc' := 7) hE dL_allowedEdge_6 rfl 3 rfl rfl ?_
  have hz := jv_xe_or h
  clear h
  rcases hz with ⟨e0, he, h⟩ | ⟨v, he, h⟩
  · subst he
    by_cases c0 : e0 = "java/lang/IllegalArgumentException"
    · rw [if_pos c0] at h
      subst c0
      cases h
      refine jv_callC (pc' := 17) hE hR hT dL_allowedEdge_7 lV_L_91 (okt_X7_allowedEdge hl0 hq) rfl rfl rfl (by decide) rfl (Nat.le_of_ble_eq_true rfl) lCa_L_allowedEdge_0 5 (by decide) (Or.inr ⟨dL_allowedEdge_15, rfl⟩) ?_
      refine jv_iconst (v := (1 : Int32)) (pc' := 18) hE1 dL_allowedEdge_17 rfl (by decide) ?_
      exact hret1 _ _ dL_allowedEdge_18
    rw [if_neg c0] at h
    by_cases c1 : e0 = "java/util/NoSuchElementException"
    · rw [if_pos c1] at h
      subst c1
      cases h
      refine jv_callC (pc' := 21) hE hR hT dL_allowedEdge_7 lV_L_91 (okt_X7_allowedEdge hl0 hq) rfl rfl rfl (by decide) rfl (Nat.le_of_ble_eq_true rfl) lCa_L_allowedEdge_1 5 (by decide) (Or.inr ⟨dL_allowedEdge_19, rfl⟩) ?_
      refine jv_iconst (v := (2 : Int32)) (pc' := 22) hE1 dL_allowedEdge_21 rfl (by decide) ?_
      exact hret1 _ _ dL_allowedEdge_22
    rw [if_neg c1] at h
    cases h
  · subst he
    refine jv_callV (pc' := 10) (o := some (.int v)) (σ' := q2) hE dL_allowedEdge_7 rfl lV_L_91 (ok_X7_allowedEdge hq) rfl rfl rfl (by decide) rfl (Nat.le_of_ble_eq_true rfl) ?_
    show jv_V E 10 [some (.ref 0), some (.int p1), some (.int p2), some (.int p3), some (.ref 61), none] [.int v, .int (0 : Int32), .ref 61] q2
    refine jv_i2l (x := v) (pc' := 11) hE dL_allowedEdge_10 rfl ?_
    refine jv_last (pc' := 12) hE dL_allowedEdge_11 rfl rfl (jv_ck_in (by decide)) ?_
    refine jv_goto (tgt := 23) hE dL_allowedEdge_12 (by decide) ?_
    refine jv_iconst (v := (0 : Int32)) (pc' := 24) hE dL_allowedEdge_23 rfl (by decide) ?_
    cases h
    exact hret _ _ dL_allowedEdge_24
