noncomputable def f_L_low (p1 p2 : Int32) : Option Int32 := if p2 = 0 then none else some ((p1 &&& (2147483647 : Int32)) - (p1 &&& (2147483647 : Int32)) / p2 * p2)
theorem ok_L_low {G : jv_G} {l : Launch} {σ : jv_S} {p1 p2 r : Int32} (h : f_L_low p1 p2 = some r) : jv_Cn G l 1 M_L_low [.int p1, .int p2] σ (some (.int r)) σ := by
  refine jv_of (L0 := [some (.int p1), some (.int p2)]) (by decide +kernel) (Nat.le_of_ble_eq_true rfl) rfl (jv_okI _) (fun E e1 e2 hE hret => ?_)
  unfold f_L_low at h
  by_cases c : p2 = 0
  · rw [if_pos c] at h; cases h
  · rw [if_neg c] at h
    cases h
    refine jv_iload_n (x := p1) (pc' := 1) hE dL_low_0 rfl 0 rfl rfl ?_
    refine jv_ldc (v := (2147483647 : Int32)) (pc' := 3) hE dL_low_1 rfl lC_L_7 ?_
    refine jv_iand (x := p1) (y := (2147483647 : Int32)) (pc' := 4) hE dL_low_3 rfl ?_
    refine jv_iload_n (x := p2) (pc' := 5) hE dL_low_4 rfl 1 rfl rfl ?_
    refine jv_irem (x := (p1 &&& (2147483647 : Int32))) (y := p2) (pc' := 6) hE dL_low_5 rfl c ?_
    exact hret _ _ dL_low_6
noncomputable def f_L_begin (σ : jv_S) (p1 : Int32) : Option (Except String Int32 × jv_S) := jv_bd (f_X7_begin σ p1) (fun q => (fun (qa : Except String Unit) (qb : jv_S) => jv_xe qa (fun e => some (.error e, qb)) (fun _ => some (.ok (1 : Int32), qb))) q.1 q.2)
set_option maxRecDepth 100000 in
set_option maxHeartbeats 4000000 in
theorem ok_L_begin {G : jv_G} {l : Launch} {σ τ : jv_S} {p1 : Int32} {r : Int32} (h : f_L_begin σ p1 = some (.ok r, τ)) : jv_Cn G l 7 M_L_begin [.ref 0, .int p1] σ (some (.int r)) τ := by
  refine jv_of (L0 := [some (.ref 0), some (.int p1)]) (by decide +kernel) (Nat.le_of_ble_eq_true rfl) rfl (jv_okI _) (fun E e1 e2 hE hret => ?_)
  unfold f_L_begin at h
  obtain ⟨⟨qa, qb⟩, hq, h⟩ := jv_bd_some h
  dsimp only at h
  have z := jv_xe_or h
  clear h
  rcases z with ⟨e0, he, h⟩ | ⟨v, he, h⟩
  · cases h
  · subst he
    cases h
    refine jv_aload_n (x := 0) (pc' := 1) hE dL_begin_0 rfl 0 rfl rfl ?_
    refine jv_iload_n (x := p1) (pc' := 2) hE dL_begin_1 rfl 1 rfl rfl ?_
    refine jv_callV (pc' := 5) (o := none) (σ' := τ) hE dL_begin_2 rfl lV_L_47 (ok_X7_begin hq) rfl rfl rfl (by decide) rfl (Nat.le_of_ble_eq_true rfl) ?_
    show jv_V E 5 [some (.ref 0), some (.int p1)] [] τ
    refine jv_iconst (v := (1 : Int32)) (pc' := 6) hE dL_begin_5 rfl (by decide) ?_
    exact hret _ _ dL_begin_6
set_option maxRecDepth 100000 in
set_option maxHeartbeats 4000000 in
theorem okt_L_begin {G : jv_G} {l : Launch} (hl0 : l.stackTraces = false) {σ τ : jv_S} {p1 : Int32} {E0 : String} (h : f_L_begin σ p1 = some (.error E0, τ)) : jv_Ct G l 7 M_L_begin [.ref 0, .int p1] σ E0 τ := by
  refine jv_oft (L0 := [some (.ref 0), some (.int p1)]) hl0 (by decide +kernel) (Nat.le_of_ble_eq_true rfl) rfl (fun E e1 e2 hE hR hT => ?_)
  subst e1; subst e2
  unfold f_L_begin at h
  obtain ⟨⟨qa, qb⟩, hq, h⟩ := jv_bd_some h
  dsimp only at h
  have z := jv_xe_or h
  clear h
  rcases z with ⟨e0, he, h⟩ | ⟨v, he, h⟩
  · subst he
    cases h
    refine jv_aload_n (x := 0) (pc' := 1) hE dL_begin_0 rfl 0 rfl rfl ?_
    refine jv_iload_n (x := p1) (pc' := 2) hE dL_begin_1 rfl 1 rfl rfl ?_
    exact jv_callVt hE hT dL_begin_2 lV_L_47 (okt_X7_begin hl0 hq) hR rfl rfl rfl (by decide) rfl (Nat.le_of_ble_eq_true rfl)
  · cases h
noncomputable def f_L_startPaths (σ : jv_S) (p1 : Int32) (p2 : Int32) : Option (Except String Int32 × jv_S) := jv_lt (f_X7_startPaths σ p1 p2) (fun q => (fun (qa : Except String Unit) (qb : jv_S) => jv_xe qa (fun e => some (.error e, qb)) (fun _ => some (.ok (1 : Int32), qb))) q.1 q.2)
set_option maxRecDepth 100000 in
set_option maxHeartbeats 4000000 in
theorem ok_L_startPaths {G : jv_G} {l : Launch} {σ τ : jv_S} {p1 : Int32} {p2 : Int32} {r : Int32} (h : f_L_startPaths σ p1 p2 = some (.ok r, τ)) : jv_Cn G l 5 M_L_startPaths [.ref 0, .int p1, .int p2] σ (some (.int r)) τ := by
  refine jv_of (L0 := [some (.ref 0), some (.int p1), some (.int p2)]) (by decide +kernel) (Nat.le_of_ble_eq_true rfl) rfl (jv_okI _) (fun E e1 e2 hE hret => ?_)
  unfold f_L_startPaths at h
  obtain ⟨⟨qa, qb⟩, hq, h⟩ := jv_lt_eq h
  dsimp only at h
  have z := jv_xe_or h
  clear h
  rcases z with ⟨e0, he, h⟩ | ⟨v, he, h⟩
  · cases h
  · subst he
    cases h
    refine jv_aload_n (x := 0) (pc' := 1) hE dL_startPaths_0 rfl 0 rfl rfl ?_
    refine jv_iload_n (x := p1) (pc' := 2) hE dL_startPaths_1 rfl 1 rfl rfl ?_
    refine jv_iload_n (x := p2) (pc' := 3) hE dL_startPaths_2 rfl 2 rfl rfl ?_
    refine jv_callV (pc' := 6) (o := none) (σ' := τ) hE dL_startPaths_3 rfl lV_L_50 (ok_X7_startPaths hq) rfl rfl rfl (by decide) rfl (Nat.le_of_ble_eq_true rfl) ?_
    show jv_V E 6 [some (.ref 0), some (.int p1), some (.int p2)] [] τ
    refine jv_iconst (v := (1 : Int32)) (pc' := 7) hE dL_startPaths_6 rfl (by decide) ?_
    exact hret _ _ dL_startPaths_7
set_option maxRecDepth 100000 in
set_option maxHeartbeats 4000000 in
theorem okt_L_startPaths {G : jv_G} {l : Launch} (hl0 : l.stackTraces = false) {σ τ : jv_S} {p1 : Int32} {p2 : Int32} {E0 : String} (h : f_L_startPaths σ p1 p2 = some (.error E0, τ)) : jv_Ct G l 5 M_L_startPaths [.ref 0, .int p1, .int p2] σ E0 τ := by
  refine jv_oft (L0 := [some (.ref 0), some (.int p1), some (.int p2)]) hl0 (by decide +kernel) (Nat.le_of_ble_eq_true rfl) rfl (fun E e1 e2 hE hR hT => ?_)
  subst e1; subst e2
  unfold f_L_startPaths at h
  obtain ⟨⟨qa, qb⟩, hq, h⟩ := jv_lt_eq h
  dsimp only at h
  have z := jv_xe_or h
  clear h
  rcases z with ⟨e0, he, h⟩ | ⟨v, he, h⟩
  · subst he
    cases h
    refine jv_aload_n (x := 0) (pc' := 1) hE dL_startPaths_0 rfl 0 rfl rfl ?_
    refine jv_iload_n (x := p1) (pc' := 2) hE dL_startPaths_1 rfl 1 rfl rfl ?_
    refine jv_iload_n (x := p2) (pc' := 3) hE dL_startPaths_2 rfl 2 rfl rfl ?_
    exact jv_callVt hE hT dL_startPaths_3 lV_L_50 (okt_X7_startPaths hl0 hq) hR rfl rfl rfl (by decide) rfl (Nat.le_of_ble_eq_true rfl)
  · cases h
noncomputable def f_L_startWalks (σ : jv_S) (p1 : Int32) (p2 : Int32) : Option (Except String Int32 × jv_S) := jv_lt (f_X7_startWalks σ p1 p2) (fun q => (fun (qa : Except String Unit) (qb : jv_S) => jv_xe qa (fun e => some (.error e, qb)) (fun _ => some (.ok (1 : Int32), qb))) q.1 q.2)
set_option maxRecDepth 100000 in
set_option maxHeartbeats 4000000 in
theorem ok_L_startWalks {G : jv_G} {l : Launch} {σ τ : jv_S} {p1 : Int32} {p2 : Int32} {r : Int32} (h : f_L_startWalks σ p1 p2 = some (.ok r, τ)) : jv_Cn G l 5 M_L_startWalks [.ref 0, .int p1, .int p2] σ (some (.int r)) τ := by
  refine jv_of (L0 := [some (.ref 0), some (.int p1), some (.int p2)]) (by decide +kernel) (Nat.le_of_ble_eq_true rfl) rfl (jv_okI _) (fun E e1 e2 hE hret => ?_)
  unfold f_L_startWalks at h
  obtain ⟨⟨qa, qb⟩, hq, h⟩ := jv_lt_eq h
  dsimp only at h
  have z := jv_xe_or h
  clear h
  rcases z with ⟨e0, he, h⟩ | ⟨v, he, h⟩
  · cases h
  · subst he
    cases h
    refine jv_aload_n (x := 0) (pc' := 1) hE dL_startWalks_0 rfl 0 rfl rfl ?_
    refine jv_iload_n (x := p1) (pc' := 2) hE dL_startWalks_1 rfl 1 rfl rfl ?_
    refine jv_iload_n (x := p2) (pc' := 3) hE dL_startWalks_2 rfl 2 rfl rfl ?_
    refine jv_callV (pc' := 6) (o := none) (σ' := τ) hE dL_startWalks_3 rfl lV_L_53 (ok_X7_startWalks hq) rfl rfl rfl (by decide) rfl (Nat.le_of_ble_eq_true rfl) ?_
    show jv_V E 6 [some (.ref 0), some (.int p1), some (.int p2)] [] τ
    refine jv_iconst (v := (1 : Int32)) (pc' := 7) hE dL_startWalks_6 rfl (by decide) ?_
    exact hret _ _ dL_startWalks_7
set_option maxRecDepth 100000 in
set_option maxHeartbeats 4000000 in
theorem okt_L_startWalks {G : jv_G} {l : Launch} (hl0 : l.stackTraces = false) {σ τ : jv_S} {p1 : Int32} {p2 : Int32} {E0 : String} (h : f_L_startWalks σ p1 p2 = some (.error E0, τ)) : jv_Ct G l 5 M_L_startWalks [.ref 0, .int p1, .int p2] σ E0 τ := by
  refine jv_oft (L0 := [some (.ref 0), some (.int p1), some (.int p2)]) hl0 (by decide +kernel) (Nat.le_of_ble_eq_true rfl) rfl (fun E e1 e2 hE hR hT => ?_)
  subst e1; subst e2
  unfold f_L_startWalks at h
  obtain ⟨⟨qa, qb⟩, hq, h⟩ := jv_lt_eq h
  dsimp only at h
  have z := jv_xe_or h
  clear h
  rcases z with ⟨e0, he, h⟩ | ⟨v, he, h⟩
  · subst he
    cases h
    refine jv_aload_n (x := 0) (pc' := 1) hE dL_startWalks_0 rfl 0 rfl rfl ?_
    refine jv_iload_n (x := p1) (pc' := 2) hE dL_startWalks_1 rfl 1 rfl rfl ?_
    refine jv_iload_n (x := p2) (pc' := 3) hE dL_startWalks_2 rfl 2 rfl rfl ?_
    exact jv_callVt hE hT dL_startWalks_3 lV_L_53 (okt_X7_startWalks hl0 hq) hR rfl rfl rfl (by decide) rfl (Nat.le_of_ble_eq_true rfl)
  · cases h
def M_L_starts : jv_M := (yL_starts, cL_starts, 5, some .int)
theorem lK_L_113 : jv_MW RL 113 M_L_starts [(0, 32, 33, 14)] 4 := ⟨jv_w (jv_tb 266 (by decide +kernel)) rfl, jv_w (jv_tb 0 (by decide +kernel)) rfl, by decide +kernel, by decide, jv_w (jv_tb 264 (by decide +kernel)) rfl, jv_w (jv_tb 265 (by decide +kernel)) rfl⟩
def M_L_add : jv_M := (yL_add, cL_add, 5, some .int)
theorem lK_L_109 : jv_MW RL 109 M_L_add [(0, 7, 8, 14), (0, 7, 13, 17)] 4 := ⟨jv_w (jv_tb 442 (by decide +kernel)) rfl, jv_w (jv_tb 0 (by decide +kernel)) rfl, by decide +kernel, by decide, jv_w (jv_tb 440 (by decide +kernel)) rfl, jv_w (jv_tb 441 (by decide +kernel)) rfl⟩
def M_L_sets : jv_M := (yL_sets, cL_sets, 5, some .int)
theorem lK_L_116 : jv_MW RL 116 M_L_sets [(0, 59, 60, 14)] 4 := ⟨jv_w (jv_tb 474 (by decide +kernel)) rfl, jv_w (jv_tb 0 (by decide +kernel)) rfl, by decide +kernel, by decide, jv_w (jv_tb 472 (by decide +kernel)) rfl, jv_w (jv_tb 473 (by decide +kernel)) rfl⟩
def M_L_draws : jv_M := (yL_draws, cL_draws, 4, some .int)
theorem lK_L_119 : jv_MW RL 119 M_L_draws [(0, 90, 91, 17), (0, 90, 95, 81)] 3 := ⟨jv_w (jv_tb 529 (by decide +kernel)) rfl, jv_w (jv_tb 0 (by decide +kernel)) rfl, by decide +kernel, by decide, jv_w (jv_tb 527 (by decide +kernel)) rfl, jv_w (jv_tb 528 (by decide +kernel)) rfl⟩
def M_L_asks : jv_M := (yL_asks, cL_asks, 6, some .int)
theorem lK_L_125 : jv_MW RL 125 M_L_asks [(0, 75, 76, 14), (0, 75, 81, 81)] 5 := ⟨jv_w (jv_tb 740 (by decide +kernel)) rfl, jv_w (jv_tb 0 (by decide +kernel)) rfl, by decide +kernel, by decide, jv_w (jv_tb 738 (by decide +kernel)) rfl, jv_w (jv_tb 739 (by decide +kernel)) rfl⟩
noncomputable def f_L_add (σ : jv_S) (p1 : Int32) (p2 : Int32) (p3 : Int32) : Option (Int32 × jv_S) := jv_bd (f_X7_addEdge σ p1 p2 p3) (fun q1 => (fun (q1a : Except String Int32) (q1b : jv_S) => jv_xe q1a (fun e0 => if e0 = "java/lang/IllegalArgumentException" then some ((-99999 : Int32), q1b) else (if e0 = "java/lang/IllegalStateException" then some ((-99999 : Int32), q1b) else (none))) (fun v2 => some (v2, q1b))) q1.1 q1.2)
theorem lCa_L_add_4_0 : gl_Ca [(0, 7, 8, 14), (0, 7, 13, 17)] 4 "java/lang/IllegalArgumentException" 8 := ⟨[], (⟨0, 7, 8, 14⟩ : ExceptionTableEntry), [(⟨0, 7, 13, 17⟩ : ExceptionTableEntry)], "java/lang/IllegalArgumentException", rfl, (fun z hz => nomatch hz), by decide, by decide, jv_w (jv_tb 267 (by decide +kernel)) rfl, jv_tb 280 (by decide +kernel), rfl⟩
theorem lCa_L_add_4_1 : gl_Ca [(0, 7, 8, 14), (0, 7, 13, 17)] 4 "java/lang/IllegalStateException" 13 := ⟨[(⟨0, 7, 8, 14⟩ : ExceptionTableEntry)], (⟨0, 7, 13, 17⟩ : ExceptionTableEntry), [], "java/lang/IllegalStateException", rfl, (fun z hz => Or.inr (by rw [List.mem_singleton.mp hz]; exact ⟨by decide, "java/lang/IllegalArgumentException", jv_w (jv_tb 267 (by decide +kernel)) rfl, by decide +kernel⟩)), by decide, by decide, jv_w (jv_tb 443 (by decide +kernel)) rfl, jv_tb 454 (by decide +kernel), rfl⟩
set_option maxRecDepth 100000 in
set_option maxHeartbeats 4000000 in
theorem ok_L_add {G : jv_G} {l : Launch} (hl0 : l.stackTraces = false) {σ : jv_S} {p1 : Int32} {p2 : Int32} {p3 : Int32} {r : Int32 × jv_S} (h : f_L_add σ p1 p2 p3 = some r) : gl_M0 gl_1 G l 7 M_L_add (gl_cw M_L_add [(0, 7, 8, 14), (0, 7, 13, 17)]) [.ref 0, .int p1, .int p2, .int p3] σ r.1 r.2 1 := by
  refine gl_of (L0 := [some (.ref 0), some (.int p1), some (.int p2), some (.int p3), none]) (Or.inr ⟨_, rfl⟩) (by decide +kernel) (Nat.le_of_ble_eq_true rfl) rfl (jv_okI _) (fun _ _ h => h.1) (fun E e1 e2 hE hT hret => ?_)
  subst e1; subst e2
  unfold f_L_add at h
  have hT := hT _ rfl
  refine gl_aload_n (x := 0) (pc' := 1) hE dL_add_0 rfl 0 rfl rfl ?_
  refine gl_iload_n (x := p1) (pc' := 2) hE dL_add_1 rfl 1 rfl rfl ?_
  refine gl_iload_n (x := p2) (pc' := 3) hE dL_add_2 rfl 2 rfl rfl ?_
  refine gl_iload_n (x := p3) (pc' := 4) hE dL_add_3 rfl 3 rfl rfl ?_
  obtain ⟨⟨q1a, q1b⟩, hq1, h⟩ := jv_bd_some h
  dsimp only at h
  have zq1 := jv_xe_or h
  clear h
  rcases zq1 with ⟨e0, eq1, h⟩ | ⟨v2, eq1, h⟩
  · subst eq1
    by_cases x0q1 : e0 = "java/lang/IllegalArgumentException"
    · rw [if_pos x0q1] at h
      subst x0q1
      refine gl_callC (As := [.int p1, .int p2, .int p3]) (pc' := 10) hE hT dL_add_4 lV_L_8 (okt_X7_addEdge hl0 hq1) rfl rfl rfl (by decide) rfl (Nat.le_of_ble_eq_true rfl) (by omega) lCa_L_add_4_0 (by decide) (Or.inr ⟨dL_add_8, rfl⟩) ?_
      refine gl_ldc (v := (-99999 : Int32)) (pc' := 12) hE dL_add_10 rfl lC_L_16 ?_
      cases h
      exact hret _ _ _ (by omega) dL_add_12
    rw [if_neg x0q1] at h
    by_cases x1q1 : e0 = "java/lang/IllegalStateException"
    · rw [if_pos x1q1] at h
      subst x1q1
      refine gl_callC (As := [.int p1, .int p2, .int p3]) (pc' := 15) hE hT dL_add_4 lV_L_8 (okt_X7_addEdge hl0 hq1) rfl rfl rfl (by decide) rfl (Nat.le_of_ble_eq_true rfl) (by omega) lCa_L_add_4_1 (by decide) (Or.inr ⟨dL_add_13, rfl⟩) ?_
      refine gl_ldc (v := (-99999 : Int32)) (pc' := 17) hE dL_add_15 rfl lC_L_16 ?_
      cases h
      exact hret _ _ _ (by omega) dL_add_17
    rw [if_neg x1q1] at h
    cases h
  · subst eq1
    refine gl_callV (k1 := 0) (o := some (.int v2)) (As := [.int p1, .int p2, .int p3]) (As1 := [.int p1, .int p2, .int p3]) (gg := (fun G => G)) (pc' := 7) hE (fun _ => gl_s1) dL_add_4 rfl lV_L_8 (ok_X7_addEdge hq1) (fun _ => rfl) (fun _ => rfl) (fun _ => rfl) (fun _ => rfl) rfl rfl rfl (by decide) rfl (Nat.le_of_ble_eq_true rfl) (by omega) ?_
    show gl_V gl_1 E 0 7 [some (.ref 0), some (.int p1), some (.int p2), some (.int p3), none] [.int v2] q1b
    cases h
    exact hret _ _ _ (by omega) dL_add_7
noncomputable def f_L_sets (σ : jv_S) (p1 : Int32) (p2 : Int32) (p3 : Int32) : Option (Int32 × jv_S) := if p1 = 0 then (jv_lt (f_X7_setLength σ p2 p3) (fun q13 => (fun (q13a : Except String Int32) (q13b : jv_S) => jv_xe q13a (fun e0 => if e0 = "java/lang/IllegalArgumentException" then some ((-99999 : Int32), q13b) else (none)) (fun v14 => some (v14, q13b))) q13.1 q13.2)) else (if p1 = (1 : Int32) then (jv_bd (f_X7_toggleEdge σ p2) (fun q10 => (fun (q10a : Except String Bool) (q10b : jv_S) => jv_xe q10a (fun e0 => if e0 = "java/lang/IllegalArgumentException" then some ((-99999 : Int32), q10b) else (none)) (fun v11 => if v11 = true then (some ((1 : Int32), q10b)) else (some ((0 : Int32), q10b)))) q10.1 q10.2)) else (if p1 = (2 : Int32) then (jv_bd (f_X7_toggleNode σ p2) (fun q7 => (fun (q7a : Except String Bool) (q7b : jv_S) => jv_xe q7a (fun e0 => if e0 = "java/lang/IllegalArgumentException" then some ((-99999 : Int32), q7b) else (none)) (fun v8 => if v8 = true then (some ((1 : Int32), q7b)) else (some ((0 : Int32), q7b)))) q7.1 q7.2)) else (jv_lt (f_X7_toggleTurn σ p2 p3) (fun q4 => (fun (q4a : Except String Bool) (q4b : jv_S) => jv_xe q4a (fun e0 => if e0 = "java/lang/IllegalArgumentException" then some ((-99999 : Int32), q4b) else (none)) (fun v5 => if v5 = true then (some ((1 : Int32), q4b)) else (some ((0 : Int32), q4b)))) q4.1 q4.2))))
theorem lCa_L_sets_48_0 : gl_Ca [(0, 59, 60, 14)] 48 "java/lang/IllegalArgumentException" 60 := ⟨[], (⟨0, 59, 60, 14⟩ : ExceptionTableEntry), [], "java/lang/IllegalArgumentException", rfl, (fun z hz => nomatch hz), by decide, by decide, jv_w (jv_tb 267 (by decide +kernel)) rfl, jv_tb 280 (by decide +kernel), rfl⟩
theorem lCa_L_sets_36_0 : gl_Ca [(0, 59, 60, 14)] 36 "java/lang/IllegalArgumentException" 60 := ⟨[], (⟨0, 59, 60, 14⟩ : ExceptionTableEntry), [], "java/lang/IllegalArgumentException", rfl, (fun z hz => nomatch hz), by decide, by decide, jv_w (jv_tb 267 (by decide +kernel)) rfl, jv_tb 280 (by decide +kernel), rfl⟩
theorem lCa_L_sets_20_0 : gl_Ca [(0, 59, 60, 14)] 20 "java/lang/IllegalArgumentException" 60 := ⟨[], (⟨0, 59, 60, 14⟩ : ExceptionTableEntry), [], "java/lang/IllegalArgumentException", rfl, (fun z hz => nomatch hz), by decide, by decide, jv_w (jv_tb 267 (by decide +kernel)) rfl, jv_tb 280 (by decide +kernel), rfl⟩
theorem lCa_L_sets_7_0 : gl_Ca [(0, 59, 60, 14)] 7 "java/lang/IllegalArgumentException" 60 := ⟨[], (⟨0, 59, 60, 14⟩ : ExceptionTableEntry), [], "java/lang/IllegalArgumentException", rfl, (fun z hz => nomatch hz), by decide, by decide, jv_w (jv_tb 267 (by decide +kernel)) rfl, jv_tb 280 (by decide +kernel), rfl⟩
set_option maxRecDepth 100000 in
set_option maxHeartbeats 4000000 in
theorem ok_L_sets {G : jv_G} {l : Launch} (hl0 : l.stackTraces = false) {σ : jv_S} {p1 : Int32} {p2 : Int32} {p3 : Int32} {r : Int32 × jv_S} (h : f_L_sets σ p1 p2 p3 = some r) : gl_M0 gl_1 G l 7 M_L_sets (gl_cw M_L_sets [(0, 59, 60, 14)]) [.ref 0, .int p1, .int p2, .int p3] σ r.1 r.2 1 := by
  refine gl_of (L0 := [some (.ref 0), some (.int p1), some (.int p2), some (.int p3), none]) (Or.inr ⟨_, rfl⟩) (by decide +kernel) (Nat.le_of_ble_eq_true rfl) rfl (jv_okI _) (fun _ _ h => h.1) (fun E e1 e2 hE hT hret => ?_)
  subst e1; subst e2
  unfold f_L_sets at h
  have hT := hT _ rfl
  refine gl_iload_n (x := p1) (pc' := 1) hE dL_sets_0 rfl 1 rfl rfl ?_
  refine gl_if_ne (x := p1) (tgt := 13) (pc' := 4) hE dL_sets_1 (by decide) rfl (fun c1 => ?_) (fun c1 => ?_)
  · rw [if_neg c1] at h
    refine gl_iload_n (x := p1) (pc' := 14) hE dL_sets_13 rfl 1 rfl rfl ?_
    refine gl_iconst (v := (1 : Int32)) (pc' := 15) hE dL_sets_14 rfl (by decide) ?_
    refine gl_icmp_ne (x := p1) (y := (1 : Int32)) (tgt := 29) (pc' := 18) hE dL_sets_15 (by decide) rfl (fun c2 => ?_) (fun c2 => ?_)
    · rw [if_neg c2] at h
      refine gl_iload_n (x := p1) (pc' := 30) hE dL_sets_29 rfl 1 rfl rfl ?_
      refine gl_iconst (v := (2 : Int32)) (pc' := 31) hE dL_sets_30 rfl (by decide) ?_
      refine gl_icmp_ne (x := p1) (y := (2 : Int32)) (tgt := 45) (pc' := 34) hE dL_sets_31 (by decide) rfl (fun c3 => ?_) (fun c3 => ?_)
      · rw [if_neg c3] at h
        refine gl_aload_n (x := 0) (pc' := 46) hE dL_sets_45 rfl 0 rfl rfl ?_
        refine gl_iload_n (x := p2) (pc' := 47) hE dL_sets_46 rfl 2 rfl rfl ?_
        refine gl_iload_n (x := p3) (pc' := 48) hE dL_sets_47 rfl 3 rfl rfl ?_
        obtain ⟨⟨q4a, q4b⟩, hq4, h⟩ := jv_lt_eq h
        dsimp only at h
        have zq4 := jv_xe_or h
        clear h
        rcases zq4 with ⟨e0, eq4, h⟩ | ⟨v5, eq4, h⟩
        · subst eq4
          by_cases x0q4 : e0 = "java/lang/IllegalArgumentException"
          · rw [if_pos x0q4] at h
            subst x0q4
            refine gl_callC (As := [.int p2, .int p3]) (pc' := 62) hE hT dL_sets_48 lV_L_30 (okt_X7_toggleTurn hl0 hq4) rfl rfl rfl (by decide) rfl (Nat.le_of_ble_eq_true rfl) (by omega) lCa_L_sets_48_0 (by decide) (Or.inr ⟨dL_sets_60, rfl⟩) ?_
            refine gl_ldc (v := (-99999 : Int32)) (pc' := 64) hE dL_sets_62 rfl lC_L_16 ?_
            cases h
            exact hret _ _ _ (by omega) dL_sets_64
          rw [if_neg x0q4] at h
          cases h
        · subst eq4
          refine gl_callV (k1 := 0) (o := some (.int (jv_b v5))) (As := [.int p2, .int p3]) (As1 := [.int p2, .int p3]) (gg := (fun G => G)) (pc' := 51) hE (fun _ => gl_s1) dL_sets_48 rfl lV_L_30 (ok_X7_toggleTurn hq4) (fun _ => rfl) (fun _ => rfl) (fun _ => rfl) (fun _ => rfl) rfl rfl rfl (by decide) rfl (Nat.le_of_ble_eq_true rfl) (by omega) ?_
          show gl_V gl_1 E 0 51 [some (.ref 0), some (.int p1), some (.int p2), some (.int p3), none] [.int (jv_b v5)] q4b
          refine gl_if_eq (x := (jv_b v5)) (tgt := 58) (pc' := 54) hE dL_sets_51 (by decide) rfl (fun c6 => ?_) (fun c6 => ?_)
          · have c6 := jv_b0 c6
            rw [if_neg c6] at h
            refine gl_iconst (v := (0 : Int32)) (pc' := 59) hE dL_sets_58 rfl (by decide) ?_
            cases h
            exact hret _ _ _ (by omega) dL_sets_59
          · have c6 := jv_b1 c6
            rw [if_pos c6] at h
            refine gl_iconst (v := (1 : Int32)) (pc' := 55) hE dL_sets_54 rfl (by decide) ?_
            refine gl_goto (tgt := 59) hE dL_sets_55 (by decide) ?_
            cases h
            exact hret _ _ _ (by omega) dL_sets_59
      · rw [if_pos c3] at h
        refine gl_aload_n (x := 0) (pc' := 35) hE dL_sets_34 rfl 0 rfl rfl ?_
        refine gl_iload_n (x := p2) (pc' := 36) hE dL_sets_35 rfl 2 rfl rfl ?_
        obtain ⟨⟨q7a, q7b⟩, hq7, h⟩ := jv_bd_some h
        dsimp only at h
        have zq7 := jv_xe_or h
        clear h
        rcases zq7 with ⟨e0, eq7, h⟩ | ⟨v8, eq7, h⟩
        · subst eq7
          by_cases x0q7 : e0 = "java/lang/IllegalArgumentException"
          · rw [if_pos x0q7] at h
            subst x0q7
            refine gl_callC (As := [.int p2]) (pc' := 62) hE hT dL_sets_36 lV_L_27 (okt_X7_toggleNode hl0 hq7) rfl rfl rfl (by decide) rfl (Nat.le_of_ble_eq_true rfl) (by omega) lCa_L_sets_36_0 (by decide) (Or.inr ⟨dL_sets_60, rfl⟩) ?_
            refine gl_ldc (v := (-99999 : Int32)) (pc' := 64) hE dL_sets_62 rfl lC_L_16 ?_
            cases h
            exact hret _ _ _ (by omega) dL_sets_64
          rw [if_neg x0q7] at h
          cases h
        · subst eq7
          refine gl_callV (k1 := 0) (o := some (.int (jv_b v8))) (As := [.int p2]) (As1 := [.int p2]) (gg := (fun G => G)) (pc' := 39) hE (fun _ => gl_s1) dL_sets_36 rfl lV_L_27 (ok_X7_toggleNode hq7) (fun _ => rfl) (fun _ => rfl) (fun _ => rfl) (fun _ => rfl) rfl rfl rfl (by decide) rfl (Nat.le_of_ble_eq_true rfl) (by omega) ?_
          show gl_V gl_1 E 0 39 [some (.ref 0), some (.int p1), some (.int p2), some (.int p3), none] [.int (jv_b v8)] q7b
          refine gl_if_eq (x := (jv_b v8)) (tgt := 58) (pc' := 42) hE dL_sets_39 (by decide) rfl (fun c9 => ?_) (fun c9 => ?_)
          · have c9 := jv_b0 c9
            rw [if_neg c9] at h
            refine gl_iconst (v := (0 : Int32)) (pc' := 59) hE dL_sets_58 rfl (by decide) ?_
            cases h
            exact hret _ _ _ (by omega) dL_sets_59
          · have c9 := jv_b1 c9
            rw [if_pos c9] at h
            refine gl_goto (tgt := 54) hE dL_sets_42 (by decide) ?_
            refine gl_iconst (v := (1 : Int32)) (pc' := 55) hE dL_sets_54 rfl (by decide) ?_
            refine gl_goto (tgt := 59) hE dL_sets_55 (by decide) ?_
            cases h
            exact hret _ _ _ (by omega) dL_sets_59
    · rw [if_pos c2] at h
      refine gl_aload_n (x := 0) (pc' := 19) hE dL_sets_18 rfl 0 rfl rfl ?_
      refine gl_iload_n (x := p2) (pc' := 20) hE dL_sets_19 rfl 2 rfl rfl ?_
      obtain ⟨⟨q10a, q10b⟩, hq10, h⟩ := jv_bd_some h
      dsimp only at h
      have zq10 := jv_xe_or h
      clear h
      rcases zq10 with ⟨e0, eq10, h⟩ | ⟨v11, eq10, h⟩
      · subst eq10
        by_cases x0q10 : e0 = "java/lang/IllegalArgumentException"
        · rw [if_pos x0q10] at h
          subst x0q10
          refine gl_callC (As := [.int p2]) (pc' := 62) hE hT dL_sets_20 lV_L_23 (okt_X7_toggleEdge hl0 hq10) rfl rfl rfl (by decide) rfl (Nat.le_of_ble_eq_true rfl) (by omega) lCa_L_sets_20_0 (by decide) (Or.inr ⟨dL_sets_60, rfl⟩) ?_
          refine gl_ldc (v := (-99999 : Int32)) (pc' := 64) hE dL_sets_62 rfl lC_L_16 ?_
          cases h
          exact hret _ _ _ (by omega) dL_sets_64
        rw [if_neg x0q10] at h
        cases h
      · subst eq10
        refine gl_callV (k1 := 0) (o := some (.int (jv_b v11))) (As := [.int p2]) (As1 := [.int p2]) (gg := (fun G => G)) (pc' := 23) hE (fun _ => gl_s1) dL_sets_20 rfl lV_L_23 (ok_X7_toggleEdge hq10) (fun _ => rfl) (fun _ => rfl) (fun _ => rfl) (fun _ => rfl) rfl rfl rfl (by decide) rfl (Nat.le_of_ble_eq_true rfl) (by omega) ?_
        show gl_V gl_1 E 0 23 [some (.ref 0), some (.int p1), some (.int p2), some (.int p3), none] [.int (jv_b v11)] q10b
        refine gl_if_eq (x := (jv_b v11)) (tgt := 58) (pc' := 26) hE dL_sets_23 (by decide) rfl (fun c12 => ?_) (fun c12 => ?_)
        · have c12 := jv_b0 c12
          rw [if_neg c12] at h
          refine gl_iconst (v := (0 : Int32)) (pc' := 59) hE dL_sets_58 rfl (by decide) ?_
          cases h
          exact hret _ _ _ (by omega) dL_sets_59
        · have c12 := jv_b1 c12
          rw [if_pos c12] at h
          refine gl_goto (tgt := 54) hE dL_sets_26 (by decide) ?_
          refine gl_iconst (v := (1 : Int32)) (pc' := 55) hE dL_sets_54 rfl (by decide) ?_
          refine gl_goto (tgt := 59) hE dL_sets_55 (by decide) ?_
          cases h
          exact hret _ _ _ (by omega) dL_sets_59
  · rw [if_pos c1] at h
    refine gl_aload_n (x := 0) (pc' := 5) hE dL_sets_4 rfl 0 rfl rfl ?_
    refine gl_iload_n (x := p2) (pc' := 6) hE dL_sets_5 rfl 2 rfl rfl ?_
    refine gl_iload_n (x := p3) (pc' := 7) hE dL_sets_6 rfl 3 rfl rfl ?_
    obtain ⟨⟨q13a, q13b⟩, hq13, h⟩ := jv_lt_eq h
    dsimp only at h
    have zq13 := jv_xe_or h
    clear h
    rcases zq13 with ⟨e0, eq13, h⟩ | ⟨v14, eq13, h⟩
    · subst eq13
      by_cases x0q13 : e0 = "java/lang/IllegalArgumentException"
      · rw [if_pos x0q13] at h
        subst x0q13
        refine gl_callC (As := [.int p2, .int p3]) (pc' := 62) hE hT dL_sets_7 lV_L_19 (okt_X7_setLength hl0 hq13) rfl rfl rfl (by decide) rfl (Nat.le_of_ble_eq_true rfl) (by omega) lCa_L_sets_7_0 (by decide) (Or.inr ⟨dL_sets_60, rfl⟩) ?_
        refine gl_ldc (v := (-99999 : Int32)) (pc' := 64) hE dL_sets_62 rfl lC_L_16 ?_
        cases h
        exact hret _ _ _ (by omega) dL_sets_64
      rw [if_neg x0q13] at h
      cases h
    · subst eq13
      refine gl_callV (k1 := 0) (o := some (.int v14)) (As := [.int p2, .int p3]) (As1 := [.int p2, .int p3]) (gg := (fun G => G)) (pc' := 10) hE (fun _ => gl_s1) dL_sets_7 rfl lV_L_19 (ok_X7_setLength hq13) (fun _ => rfl) (fun _ => rfl) (fun _ => rfl) (fun _ => rfl) rfl rfl rfl (by decide) rfl (Nat.le_of_ble_eq_true rfl) (by omega) ?_
      show gl_V gl_1 E 0 10 [some (.ref 0), some (.int p1), some (.int p2), some (.int p3), none] [.int v14] q13b
      refine gl_goto (tgt := 59) hE dL_sets_10 (by decide) ?_
      cases h
      exact hret _ _ _ (by omega) dL_sets_59
noncomputable def f_L_starts (σ : jv_S) (p1 : Int32) (p2 : Int32) (p3 : Int32) : Option (Int32 × jv_S) := if p1 = 0 then (jv_bd (f_L_begin σ p2) (fun q7 => (fun (q7a : Except String Int32) (q7b : jv_S) => jv_xe q7a (fun e0 => if e0 = "java/lang/IllegalArgumentException" then some ((-99999 : Int32), q7b) else (none)) (fun v8 => some (v8, q7b))) q7.1 q7.2)) else (if p1 = (1 : Int32) then (jv_bd (f_L_startPaths σ p2 p3) (fun q5 => (fun (q5a : Except String Int32) (q5b : jv_S) => jv_xe q5a (fun e0 => if e0 = "java/lang/IllegalArgumentException" then some ((-99999 : Int32), q5b) else (none)) (fun v6 => some (v6, q5b))) q5.1 q5.2)) else (jv_bd (f_L_startWalks σ p2 p3) (fun q3 => (fun (q3a : Except String Int32) (q3b : jv_S) => jv_xe q3a (fun e0 => if e0 = "java/lang/IllegalArgumentException" then some ((-99999 : Int32), q3b) else (none)) (fun v4 => some (v4, q3b))) q3.1 q3.2)))
theorem lCa_L_starts_29_0 : gl_Ca [(0, 32, 33, 14)] 29 "java/lang/IllegalArgumentException" 33 := ⟨[], (⟨0, 32, 33, 14⟩ : ExceptionTableEntry), [], "java/lang/IllegalArgumentException", rfl, (fun z hz => nomatch hz), by decide, by decide, jv_w (jv_tb 267 (by decide +kernel)) rfl, jv_tb 280 (by decide +kernel), rfl⟩
theorem lCa_L_starts_20_0 : gl_Ca [(0, 32, 33, 14)] 20 "java/lang/IllegalArgumentException" 33 := ⟨[], (⟨0, 32, 33, 14⟩ : ExceptionTableEntry), [], "java/lang/IllegalArgumentException", rfl, (fun z hz => nomatch hz), by decide, by decide, jv_w (jv_tb 267 (by decide +kernel)) rfl, jv_tb 280 (by decide +kernel), rfl⟩
theorem lCa_L_starts_6_0 : gl_Ca [(0, 32, 33, 14)] 6 "java/lang/IllegalArgumentException" 33 := ⟨[], (⟨0, 32, 33, 14⟩ : ExceptionTableEntry), [], "java/lang/IllegalArgumentException", rfl, (fun z hz => nomatch hz), by decide, by decide, jv_w (jv_tb 267 (by decide +kernel)) rfl, jv_tb 280 (by decide +kernel), rfl⟩
set_option maxRecDepth 100000 in
set_option maxHeartbeats 4000000 in
theorem ok_L_starts {G : jv_G} {l : Launch} (hl0 : l.stackTraces = false) {σ : jv_S} {p1 : Int32} {p2 : Int32} {p3 : Int32} {r : Int32 × jv_S} (h : f_L_starts σ p1 p2 p3 = some r) : gl_M0 gl_1 G l 8 M_L_starts (gl_cw M_L_starts [(0, 32, 33, 14)]) [.ref 0, .int p1, .int p2, .int p3] σ r.1 r.2 1 := by
  refine gl_of (L0 := [some (.ref 0), some (.int p1), some (.int p2), some (.int p3), none]) (Or.inr ⟨_, rfl⟩) (by decide +kernel) (Nat.le_of_ble_eq_true rfl) rfl (jv_okI _) (fun _ _ h => h.1) (fun E e1 e2 hE hT hret => ?_)
  subst e1; subst e2
  unfold f_L_starts at h
  have hT := hT _ rfl
  refine gl_iload_n (x := p1) (pc' := 1) hE dL_starts_0 rfl 1 rfl rfl ?_
  refine gl_if_ne (x := p1) (tgt := 12) (pc' := 4) hE dL_starts_1 (by decide) rfl (fun c1 => ?_) (fun c1 => ?_)
  · rw [if_neg c1] at h
    refine gl_iload_n (x := p1) (pc' := 13) hE dL_starts_12 rfl 1 rfl rfl ?_
    refine gl_iconst (v := (1 : Int32)) (pc' := 14) hE dL_starts_13 rfl (by decide) ?_
    refine gl_icmp_ne (x := p1) (y := (1 : Int32)) (tgt := 26) (pc' := 17) hE dL_starts_14 (by decide) rfl (fun c2 => ?_) (fun c2 => ?_)
    · rw [if_neg c2] at h
      refine gl_aload_n (x := 0) (pc' := 27) hE dL_starts_26 rfl 0 rfl rfl ?_
      refine gl_iload_n (x := p2) (pc' := 28) hE dL_starts_27 rfl 2 rfl rfl ?_
      refine gl_iload_n (x := p3) (pc' := 29) hE dL_starts_28 rfl 3 rfl rfl ?_
      obtain ⟨⟨q3a, q3b⟩, hq3, h⟩ := jv_bd_some h
      dsimp only at h
      have zq3 := jv_xe_or h
      clear h
      rcases zq3 with ⟨e0, eq3, h⟩ | ⟨v4, eq3, h⟩
      · subst eq3
        by_cases x0q3 : e0 = "java/lang/IllegalArgumentException"
        · rw [if_pos x0q3] at h
          subst x0q3
          refine gl_callCS (As := [.ref 0, .int p2, .int p3]) (pc' := 35) hE hT dL_starts_29 lS_L_44 (okt_L_startWalks hl0 hq3) rfl (by decide) rfl (Nat.le_of_ble_eq_true rfl) (by omega) lCa_L_starts_29_0 (by decide) (Or.inr ⟨dL_starts_33, rfl⟩) ?_
          refine gl_ldc (v := (-99999 : Int32)) (pc' := 37) hE dL_starts_35 rfl lC_L_16 ?_
          cases h
          exact hret _ _ _ (by omega) dL_starts_37
        rw [if_neg x0q3] at h
        cases h
      · subst eq3
        refine gl_callS1 (o := some (.int v4)) (As := [.ref 0, .int p2, .int p3]) (As1 := [.ref 0, .int p2, .int p3]) (gg := (fun G => G)) (pc' := 32) hE (fun _ => gl_s1) dL_starts_29 rfl lS_L_44 (ok_L_startWalks hq3) (fun _ => rfl) (fun _ => rfl) rfl (by decide) rfl (Nat.le_of_ble_eq_true rfl) (by omega) ?_
        show gl_V gl_1 E 0 32 [some (.ref 0), some (.int p1), some (.int p2), some (.int p3), none] [.int v4] q3b
        cases h
        exact hret _ _ _ (by omega) dL_starts_32
    · rw [if_pos c2] at h
      refine gl_aload_n (x := 0) (pc' := 18) hE dL_starts_17 rfl 0 rfl rfl ?_
      refine gl_iload_n (x := p2) (pc' := 19) hE dL_starts_18 rfl 2 rfl rfl ?_
      refine gl_iload_n (x := p3) (pc' := 20) hE dL_starts_19 rfl 3 rfl rfl ?_
      obtain ⟨⟨q5a, q5b⟩, hq5, h⟩ := jv_bd_some h
      dsimp only at h
      have zq5 := jv_xe_or h
      clear h
      rcases zq5 with ⟨e0, eq5, h⟩ | ⟨v6, eq5, h⟩
      · subst eq5
        by_cases x0q5 : e0 = "java/lang/IllegalArgumentException"
        · rw [if_pos x0q5] at h
          subst x0q5
          refine gl_callCS (As := [.ref 0, .int p2, .int p3]) (pc' := 35) hE hT dL_starts_20 lS_L_40 (okt_L_startPaths hl0 hq5) rfl (by decide) rfl (Nat.le_of_ble_eq_true rfl) (by omega) lCa_L_starts_20_0 (by decide) (Or.inr ⟨dL_starts_33, rfl⟩) ?_
          refine gl_ldc (v := (-99999 : Int32)) (pc' := 37) hE dL_starts_35 rfl lC_L_16 ?_
          cases h
          exact hret _ _ _ (by omega) dL_starts_37
        rw [if_neg x0q5] at h
        cases h
      · subst eq5
        refine gl_callS1 (o := some (.int v6)) (As := [.ref 0, .int p2, .int p3]) (As1 := [.ref 0, .int p2, .int p3]) (gg := (fun G => G)) (pc' := 23) hE (fun _ => gl_s1) dL_starts_20 rfl lS_L_40 (ok_L_startPaths hq5) (fun _ => rfl) (fun _ => rfl) rfl (by decide) rfl (Nat.le_of_ble_eq_true rfl) (by omega) ?_
        show gl_V gl_1 E 0 23 [some (.ref 0), some (.int p1), some (.int p2), some (.int p3), none] [.int v6] q5b
        refine gl_goto (tgt := 32) hE dL_starts_23 (by decide) ?_
        cases h
        exact hret _ _ _ (by omega) dL_starts_32
  · rw [if_pos c1] at h
    refine gl_aload_n (x := 0) (pc' := 5) hE dL_starts_4 rfl 0 rfl rfl ?_
    refine gl_iload_n (x := p2) (pc' := 6) hE dL_starts_5 rfl 2 rfl rfl ?_
    obtain ⟨⟨q7a, q7b⟩, hq7, h⟩ := jv_bd_some h
    dsimp only at h
    have zq7 := jv_xe_or h
    clear h
    rcases zq7 with ⟨e0, eq7, h⟩ | ⟨v8, eq7, h⟩
    · subst eq7
      by_cases x0q7 : e0 = "java/lang/IllegalArgumentException"
      · rw [if_pos x0q7] at h
        subst x0q7
        refine gl_callCS (As := [.ref 0, .int p2]) (pc' := 35) hE hT dL_starts_6 lS_L_34 (okt_L_begin hl0 hq7) rfl (by decide) rfl (Nat.le_of_ble_eq_true rfl) (by omega) lCa_L_starts_6_0 (by decide) (Or.inr ⟨dL_starts_33, rfl⟩) ?_
        refine gl_ldc (v := (-99999 : Int32)) (pc' := 37) hE dL_starts_35 rfl lC_L_16 ?_
        cases h
        exact hret _ _ _ (by omega) dL_starts_37
      rw [if_neg x0q7] at h
      cases h
    · subst eq7
      refine gl_callS1 (o := some (.int v8)) (As := [.ref 0, .int p2]) (As1 := [.ref 0, .int p2]) (gg := (fun G => G)) (pc' := 9) hE (fun _ => gl_s1) dL_starts_6 rfl lS_L_34 (ok_L_begin hq7) (fun _ => rfl) (fun _ => rfl) rfl (by decide) rfl (Nat.le_of_ble_eq_true rfl) (by omega) ?_
      show gl_V gl_1 E 0 9 [some (.ref 0), some (.int p1), some (.int p2), some (.int p3), none] [.int v8] q7b
      refine gl_goto (tgt := 32) hE dL_starts_9 (by decide) ?_
      cases h
      exact hret _ _ _ (by omega) dL_starts_32
noncomputable def f_L_draws (σ : jv_S) (p1 : Int32) (p2 : Int32) : Option (Int32 × jv_S) := if p1 = 0 then (jv_bd (f_X7_nextPath σ) (fun q22 => (fun (q22a : Except String Int32) (q22b : jv_S) => jv_xe q22a (fun e0 => if e0 = "java/lang/IllegalStateException" then some ((-99999 : Int32), q22b) else (if e0 = "java/util/NoSuchElementException" then some ((-99998 : Int32), q22b) else (none))) (fun v23 => some (v23, q22b))) q22.1 q22.2)) else (if p1 = (1 : Int32) then (jv_lt (f_X7_pathsDrawn σ) (fun q20 => jv_xe q20 (fun e0 => if e0 = "java/lang/IllegalStateException" then some ((-99999 : Int32), σ) else (if e0 = "java/util/NoSuchElementException" then some ((-99998 : Int32), σ) else (none))) (fun v21 => some (v21, σ)))) else (if p1 = (2 : Int32) then (jv_bd (f_X7_pathEdges σ) (fun q18 => jv_xe q18 (fun e0 => if e0 = "java/lang/IllegalStateException" then some ((-99999 : Int32), σ) else (if e0 = "java/util/NoSuchElementException" then some ((-99998 : Int32), σ) else (none))) (fun v19 => some (v19, σ)))) else (if p1 = (3 : Int32) then (jv_lt (f_X7_pathEdge σ p2) (fun q16 => jv_xe q16 (fun e0 => if e0 = "java/lang/IllegalStateException" then some ((-99999 : Int32), σ) else (if e0 = "java/util/NoSuchElementException" then some ((-99998 : Int32), σ) else (none))) (fun v17 => some (v17, σ)))) else (if p1 = (4 : Int32) then (jv_bd (f_X7_nextWalk σ) (fun q14 => (fun (q14a : Except String Int32) (q14b : jv_S) => jv_xe q14a (fun e0 => if e0 = "java/lang/IllegalStateException" then some ((-99999 : Int32), q14b) else (if e0 = "java/util/NoSuchElementException" then some ((-99998 : Int32), q14b) else (none))) (fun v15 => some (v15, q14b))) q14.1 q14.2)) else (if p1 = (5 : Int32) then (jv_lt (f_X7_walksDrawn σ) (fun q12 => jv_xe q12 (fun e0 => if e0 = "java/lang/IllegalStateException" then some ((-99999 : Int32), σ) else (if e0 = "java/util/NoSuchElementException" then some ((-99998 : Int32), σ) else (none))) (fun v13 => some (v13, σ)))) else (if p1 = (6 : Int32) then (jv_lt (f_X7_walkEdges σ) (fun q10 => jv_xe q10 (fun e0 => if e0 = "java/lang/IllegalStateException" then some ((-99999 : Int32), σ) else (if e0 = "java/util/NoSuchElementException" then some ((-99998 : Int32), σ) else (none))) (fun v11 => some (v11, σ)))) else (jv_bd (f_X7_walkEdge σ p2) (fun q8 => jv_xe q8 (fun e0 => if e0 = "java/lang/IllegalStateException" then some ((-99999 : Int32), σ) else (if e0 = "java/util/NoSuchElementException" then some ((-99998 : Int32), σ) else (none))) (fun v9 => some (v9, σ))))))))))
theorem lCa_L_draws_87_0 : gl_Ca [(0, 90, 91, 17), (0, 90, 95, 81)] 87 "java/lang/IllegalStateException" 91 := ⟨[], (⟨0, 90, 91, 17⟩ : ExceptionTableEntry), [(⟨0, 90, 95, 81⟩ : ExceptionTableEntry)], "java/lang/IllegalStateException", rfl, (fun z hz => nomatch hz), by decide, by decide, jv_w (jv_tb 443 (by decide +kernel)) rfl, jv_tb 454 (by decide +kernel), rfl⟩
theorem lCa_L_draws_87_1 : gl_Ca [(0, 90, 91, 17), (0, 90, 95, 81)] 87 "java/util/NoSuchElementException" 95 := ⟨[(⟨0, 90, 91, 17⟩ : ExceptionTableEntry)], (⟨0, 90, 95, 81⟩ : ExceptionTableEntry), [], "java/util/NoSuchElementException", rfl, (fun z hz => Or.inr (by rw [List.mem_singleton.mp hz]; exact ⟨by decide, "java/lang/IllegalStateException", jv_w (jv_tb 443 (by decide +kernel)) rfl, by decide +kernel⟩)), by decide, by decide, jv_w (jv_tb 530 (by decide +kernel)) rfl, jv_tb 620 (by decide +kernel), rfl⟩
theorem lCa_L_draws_79_0 : gl_Ca [(0, 90, 91, 17), (0, 90, 95, 81)] 79 "java/lang/IllegalStateException" 91 := ⟨[], (⟨0, 90, 91, 17⟩ : ExceptionTableEntry), [(⟨0, 90, 95, 81⟩ : ExceptionTableEntry)], "java/lang/IllegalStateException", rfl, (fun z hz => nomatch hz), by decide, by decide, jv_w (jv_tb 443 (by decide +kernel)) rfl, jv_tb 454 (by decide +kernel), rfl⟩
theorem lCa_L_draws_79_1 : gl_Ca [(0, 90, 91, 17), (0, 90, 95, 81)] 79 "java/util/NoSuchElementException" 95 := ⟨[(⟨0, 90, 91, 17⟩ : ExceptionTableEntry)], (⟨0, 90, 95, 81⟩ : ExceptionTableEntry), [], "java/util/NoSuchElementException", rfl, (fun z hz => Or.inr (by rw [List.mem_singleton.mp hz]; exact ⟨by decide, "java/lang/IllegalStateException", jv_w (jv_tb 443 (by decide +kernel)) rfl, by decide +kernel⟩)), by decide, by decide, jv_w (jv_tb 530 (by decide +kernel)) rfl, jv_tb 620 (by decide +kernel), rfl⟩
theorem lCa_L_draws_66_0 : gl_Ca [(0, 90, 91, 17), (0, 90, 95, 81)] 66 "java/lang/IllegalStateException" 91 := ⟨[], (⟨0, 90, 91, 17⟩ : ExceptionTableEntry), [(⟨0, 90, 95, 81⟩ : ExceptionTableEntry)], "java/lang/IllegalStateException", rfl, (fun z hz => nomatch hz), by decide, by decide, jv_w (jv_tb 443 (by decide +kernel)) rfl, jv_tb 454 (by decide +kernel), rfl⟩
theorem lCa_L_draws_66_1 : gl_Ca [(0, 90, 91, 17), (0, 90, 95, 81)] 66 "java/util/NoSuchElementException" 95 := ⟨[(⟨0, 90, 91, 17⟩ : ExceptionTableEntry)], (⟨0, 90, 95, 81⟩ : ExceptionTableEntry), [], "java/util/NoSuchElementException", rfl, (fun z hz => Or.inr (by rw [List.mem_singleton.mp hz]; exact ⟨by decide, "java/lang/IllegalStateException", jv_w (jv_tb 443 (by decide +kernel)) rfl, by decide +kernel⟩)), by decide, by decide, jv_w (jv_tb 530 (by decide +kernel)) rfl, jv_tb 620 (by decide +kernel), rfl⟩
theorem lCa_L_draws_54_0 : gl_Ca [(0, 90, 91, 17), (0, 90, 95, 81)] 54 "java/lang/IllegalStateException" 91 := ⟨[], (⟨0, 90, 91, 17⟩ : ExceptionTableEntry), [(⟨0, 90, 95, 81⟩ : ExceptionTableEntry)], "java/lang/IllegalStateException", rfl, (fun z hz => nomatch hz), by decide, by decide, jv_w (jv_tb 443 (by decide +kernel)) rfl, jv_tb 454 (by decide +kernel), rfl⟩
theorem lCa_L_draws_54_1 : gl_Ca [(0, 90, 91, 17), (0, 90, 95, 81)] 54 "java/util/NoSuchElementException" 95 := ⟨[(⟨0, 90, 91, 17⟩ : ExceptionTableEntry)], (⟨0, 90, 95, 81⟩ : ExceptionTableEntry), [], "java/util/NoSuchElementException", rfl, (fun z hz => Or.inr (by rw [List.mem_singleton.mp hz]; exact ⟨by decide, "java/lang/IllegalStateException", jv_w (jv_tb 443 (by decide +kernel)) rfl, by decide +kernel⟩)), by decide, by decide, jv_w (jv_tb 530 (by decide +kernel)) rfl, jv_tb 620 (by decide +kernel), rfl⟩
theorem lCa_L_draws_42_0 : gl_Ca [(0, 90, 91, 17), (0, 90, 95, 81)] 42 "java/lang/IllegalStateException" 91 := ⟨[], (⟨0, 90, 91, 17⟩ : ExceptionTableEntry), [(⟨0, 90, 95, 81⟩ : ExceptionTableEntry)], "java/lang/IllegalStateException", rfl, (fun z hz => nomatch hz), by decide, by decide, jv_w (jv_tb 443 (by decide +kernel)) rfl, jv_tb 454 (by decide +kernel), rfl⟩
theorem lCa_L_draws_42_1 : gl_Ca [(0, 90, 91, 17), (0, 90, 95, 81)] 42 "java/util/NoSuchElementException" 95 := ⟨[(⟨0, 90, 91, 17⟩ : ExceptionTableEntry)], (⟨0, 90, 95, 81⟩ : ExceptionTableEntry), [], "java/util/NoSuchElementException", rfl, (fun z hz => Or.inr (by rw [List.mem_singleton.mp hz]; exact ⟨by decide, "java/lang/IllegalStateException", jv_w (jv_tb 443 (by decide +kernel)) rfl, by decide +kernel⟩)), by decide, by decide, jv_w (jv_tb 530 (by decide +kernel)) rfl, jv_tb 620 (by decide +kernel), rfl⟩
theorem lCa_L_draws_29_0 : gl_Ca [(0, 90, 91, 17), (0, 90, 95, 81)] 29 "java/lang/IllegalStateException" 91 := ⟨[], (⟨0, 90, 91, 17⟩ : ExceptionTableEntry), [(⟨0, 90, 95, 81⟩ : ExceptionTableEntry)], "java/lang/IllegalStateException", rfl, (fun z hz => nomatch hz), by decide, by decide, jv_w (jv_tb 443 (by decide +kernel)) rfl, jv_tb 454 (by decide +kernel), rfl⟩
theorem lCa_L_draws_29_1 : gl_Ca [(0, 90, 91, 17), (0, 90, 95, 81)] 29 "java/util/NoSuchElementException" 95 := ⟨[(⟨0, 90, 91, 17⟩ : ExceptionTableEntry)], (⟨0, 90, 95, 81⟩ : ExceptionTableEntry), [], "java/util/NoSuchElementException", rfl, (fun z hz => Or.inr (by rw [List.mem_singleton.mp hz]; exact ⟨by decide, "java/lang/IllegalStateException", jv_w (jv_tb 443 (by decide +kernel)) rfl, by decide +kernel⟩)), by decide, by decide, jv_w (jv_tb 530 (by decide +kernel)) rfl, jv_tb 620 (by decide +kernel), rfl⟩
theorem lCa_L_draws_17_0 : gl_Ca [(0, 90, 91, 17), (0, 90, 95, 81)] 17 "java/lang/IllegalStateException" 91 := ⟨[], (⟨0, 90, 91, 17⟩ : ExceptionTableEntry), [(⟨0, 90, 95, 81⟩ : ExceptionTableEntry)], "java/lang/IllegalStateException", rfl, (fun z hz => nomatch hz), by decide, by decide, jv_w (jv_tb 443 (by decide +kernel)) rfl, jv_tb 454 (by decide +kernel), rfl⟩
theorem lCa_L_draws_17_1 : gl_Ca [(0, 90, 91, 17), (0, 90, 95, 81)] 17 "java/util/NoSuchElementException" 95 := ⟨[(⟨0, 90, 91, 17⟩ : ExceptionTableEntry)], (⟨0, 90, 95, 81⟩ : ExceptionTableEntry), [], "java/util/NoSuchElementException", rfl, (fun z hz => Or.inr (by rw [List.mem_singleton.mp hz]; exact ⟨by decide, "java/lang/IllegalStateException", jv_w (jv_tb 443 (by decide +kernel)) rfl, by decide +kernel⟩)), by decide, by decide, jv_w (jv_tb 530 (by decide +kernel)) rfl, jv_tb 620 (by decide +kernel), rfl⟩
theorem lCa_L_draws_5_0 : gl_Ca [(0, 90, 91, 17), (0, 90, 95, 81)] 5 "java/lang/IllegalStateException" 91 := ⟨[], (⟨0, 90, 91, 17⟩ : ExceptionTableEntry), [(⟨0, 90, 95, 81⟩ : ExceptionTableEntry)], "java/lang/IllegalStateException", rfl, (fun z hz => nomatch hz), by decide, by decide, jv_w (jv_tb 443 (by decide +kernel)) rfl, jv_tb 454 (by decide +kernel), rfl⟩
theorem lCa_L_draws_5_1 : gl_Ca [(0, 90, 91, 17), (0, 90, 95, 81)] 5 "java/util/NoSuchElementException" 95 := ⟨[(⟨0, 90, 91, 17⟩ : ExceptionTableEntry)], (⟨0, 90, 95, 81⟩ : ExceptionTableEntry), [], "java/util/NoSuchElementException", rfl, (fun z hz => Or.inr (by rw [List.mem_singleton.mp hz]; exact ⟨by decide, "java/lang/IllegalStateException", jv_w (jv_tb 443 (by decide +kernel)) rfl, by decide +kernel⟩)), by decide, by decide, jv_w (jv_tb 530 (by decide +kernel)) rfl, jv_tb 620 (by decide +kernel), rfl⟩
set_option maxRecDepth 100000 in
set_option maxHeartbeats 4000000 in
theorem ok_L_draws {G : jv_G} {l : Launch} (hl0 : l.stackTraces = false) {σ : jv_S} {p1 : Int32} {p2 : Int32} {r : Int32 × jv_S} (h : f_L_draws σ p1 p2 = some r) : gl_M0 gl_1 G l 20 M_L_draws (gl_cw M_L_draws [(0, 90, 91, 17), (0, 90, 95, 81)]) [.ref 0, .int p1, .int p2] σ r.1 r.2 1 := by
  refine gl_of (L0 := [some (.ref 0), some (.int p1), some (.int p2), none]) (Or.inr ⟨_, rfl⟩) (by decide +kernel) (Nat.le_of_ble_eq_true rfl) rfl (jv_okI _) (fun _ _ h => h.1) (fun E e1 e2 hE hT hret => ?_)
  subst e1; subst e2
  unfold f_L_draws at h
  have hT := hT _ rfl
  refine gl_iload_n (x := p1) (pc' := 1) hE dL_draws_0 rfl 1 rfl rfl ?_
  refine gl_if_ne (x := p1) (tgt := 11) (pc' := 4) hE dL_draws_1 (by decide) rfl (fun c1 => ?_) (fun c1 => ?_)
  · rw [if_neg c1] at h
    refine gl_iload_n (x := p1) (pc' := 12) hE dL_draws_11 rfl 1 rfl rfl ?_
    refine gl_iconst (v := (1 : Int32)) (pc' := 13) hE dL_draws_12 rfl (by decide) ?_
    refine gl_icmp_ne (x := p1) (y := (1 : Int32)) (tgt := 23) (pc' := 16) hE dL_draws_13 (by decide) rfl (fun c2 => ?_) (fun c2 => ?_)
    · rw [if_neg c2] at h
      refine gl_iload_n (x := p1) (pc' := 24) hE dL_draws_23 rfl 1 rfl rfl ?_
      refine gl_iconst (v := (2 : Int32)) (pc' := 25) hE dL_draws_24 rfl (by decide) ?_
      refine gl_icmp_ne (x := p1) (y := (2 : Int32)) (tgt := 35) (pc' := 28) hE dL_draws_25 (by decide) rfl (fun c3 => ?_) (fun c3 => ?_)
      · rw [if_neg c3] at h
        refine gl_iload_n (x := p1) (pc' := 36) hE dL_draws_35 rfl 1 rfl rfl ?_
        refine gl_iconst (v := (3 : Int32)) (pc' := 37) hE dL_draws_36 rfl (by decide) ?_
        refine gl_icmp_ne (x := p1) (y := (3 : Int32)) (tgt := 48) (pc' := 40) hE dL_draws_37 (by decide) rfl (fun c4 => ?_) (fun c4 => ?_)
        · rw [if_neg c4] at h
          refine gl_iload_n (x := p1) (pc' := 49) hE dL_draws_48 rfl 1 rfl rfl ?_
          refine gl_iconst (v := (4 : Int32)) (pc' := 50) hE dL_draws_49 rfl (by decide) ?_
          refine gl_icmp_ne (x := p1) (y := (4 : Int32)) (tgt := 60) (pc' := 53) hE dL_draws_50 (by decide) rfl (fun c5 => ?_) (fun c5 => ?_)
          · rw [if_neg c5] at h
            refine gl_iload_n (x := p1) (pc' := 61) hE dL_draws_60 rfl 1 rfl rfl ?_
            refine gl_iconst (v := (5 : Int32)) (pc' := 62) hE dL_draws_61 rfl (by decide) ?_
            refine gl_icmp_ne (x := p1) (y := (5 : Int32)) (tgt := 72) (pc' := 65) hE dL_draws_62 (by decide) rfl (fun c6 => ?_) (fun c6 => ?_)
            · rw [if_neg c6] at h
              refine gl_iload_n (x := p1) (pc' := 73) hE dL_draws_72 rfl 1 rfl rfl ?_
              refine gl_bipush (v := (6 : Int32)) (pc' := 75) hE dL_draws_73 rfl (by decide) ?_
              refine gl_icmp_ne (x := p1) (y := (6 : Int32)) (tgt := 85) (pc' := 78) hE dL_draws_75 (by decide) rfl (fun c7 => ?_) (fun c7 => ?_)
              · rw [if_neg c7] at h
                refine gl_aload_n (x := 0) (pc' := 86) hE dL_draws_85 rfl 0 rfl rfl ?_
                refine gl_iload_n (x := p2) (pc' := 87) hE dL_draws_86 rfl 2 rfl rfl ?_
                obtain ⟨q8, hq8, h⟩ := jv_bd_some h
                have zq8 := jv_xe_or h
                clear h
                rcases zq8 with ⟨e0, eq8, h⟩ | ⟨v9, eq8, h⟩
                · subst eq8
                  by_cases x0q8 : e0 = "java/lang/IllegalStateException"
                  · rw [if_pos x0q8] at h
                    subst x0q8
                    refine gl_callC (As := [.int p2]) (pc' := 92) hE hT dL_draws_87 lV_L_78 (okt_X7_walkEdge hl0 hq8) rfl rfl rfl (by decide) rfl (Nat.le_of_ble_eq_true rfl) (by omega) lCa_L_draws_87_0 (by decide) (Or.inl ⟨3, rfl, dL_draws_91, rfl⟩) ?_
                    refine gl_ldc (v := (-99999 : Int32)) (pc' := 94) hE dL_draws_92 rfl lC_L_16 ?_
                    cases h
                    exact hret _ _ _ (by omega) dL_draws_94
                  rw [if_neg x0q8] at h
                  by_cases x1q8 : e0 = "java/util/NoSuchElementException"
                  · rw [if_pos x1q8] at h
                    subst x1q8
                    refine gl_callC (As := [.int p2]) (pc' := 96) hE hT dL_draws_87 lV_L_78 (okt_X7_walkEdge hl0 hq8) rfl rfl rfl (by decide) rfl (Nat.le_of_ble_eq_true rfl) (by omega) lCa_L_draws_87_1 (by decide) (Or.inl ⟨3, rfl, dL_draws_95, rfl⟩) ?_
                    refine gl_ldc (v := (-99998 : Int32)) (pc' := 98) hE dL_draws_96 rfl lC_L_83 ?_
                    cases h
                    exact hret _ _ _ (by omega) dL_draws_98
                  rw [if_neg x1q8] at h
                  cases h
                · subst eq8
                  refine gl_callV (k1 := 0) (o := some (.int v9)) (As := [.int p2]) (As1 := [.int p2]) (gg := (fun G => G)) (pc' := 90) hE (fun _ => gl_s1) dL_draws_87 rfl lV_L_78 (ok_X7_walkEdge hq8) (fun _ => rfl) (fun _ => rfl) (fun _ => rfl) (fun _ => rfl) rfl rfl rfl (by decide) rfl (Nat.le_of_ble_eq_true rfl) (by omega) ?_
                  show gl_V gl_1 E 0 90 [some (.ref 0), some (.int p1), some (.int p2), none] [.int v9] σ
                  cases h
                  exact hret _ _ _ (by omega) dL_draws_90
              · rw [if_pos c7] at h
                refine gl_aload_n (x := 0) (pc' := 79) hE dL_draws_78 rfl 0 rfl rfl ?_
                obtain ⟨q10, hq10, h⟩ := jv_lt_eq h
                have zq10 := jv_xe_or h
                clear h
                rcases zq10 with ⟨e0, eq10, h⟩ | ⟨v11, eq10, h⟩
                · subst eq10
                  by_cases x0q10 : e0 = "java/lang/IllegalStateException"
                  · rw [if_pos x0q10] at h
                    subst x0q10
                    refine gl_callC (As := []) (pc' := 92) hE hT dL_draws_79 lV_L_75 (okt_X7_walkEdges hl0 hq10) rfl rfl rfl (by decide) rfl (Nat.le_of_ble_eq_true rfl) (by omega) lCa_L_draws_79_0 (by decide) (Or.inl ⟨3, rfl, dL_draws_91, rfl⟩) ?_
                    refine gl_ldc (v := (-99999 : Int32)) (pc' := 94) hE dL_draws_92 rfl lC_L_16 ?_
                    cases h
                    exact hret _ _ _ (by omega) dL_draws_94
                  rw [if_neg x0q10] at h
                  by_cases x1q10 : e0 = "java/util/NoSuchElementException"
                  · rw [if_pos x1q10] at h
                    subst x1q10
                    refine gl_callC (As := []) (pc' := 96) hE hT dL_draws_79 lV_L_75 (okt_X7_walkEdges hl0 hq10) rfl rfl rfl (by decide) rfl (Nat.le_of_ble_eq_true rfl) (by omega) lCa_L_draws_79_1 (by decide) (Or.inl ⟨3, rfl, dL_draws_95, rfl⟩) ?_
                    refine gl_ldc (v := (-99998 : Int32)) (pc' := 98) hE dL_draws_96 rfl lC_L_83 ?_
                    cases h
                    exact hret _ _ _ (by omega) dL_draws_98
                  rw [if_neg x1q10] at h
                  cases h
                · subst eq10
                  refine gl_callV (k1 := 0) (o := some (.int v11)) (As := []) (As1 := []) (gg := (fun G => G)) (pc' := 82) hE (fun _ => gl_s1) dL_draws_79 rfl lV_L_75 (ok_X7_walkEdges hq10) (fun _ => rfl) (fun _ => rfl) (fun _ => rfl) (fun _ => rfl) rfl rfl rfl (by decide) rfl (Nat.le_of_ble_eq_true rfl) (by omega) ?_
                  show gl_V gl_1 E 0 82 [some (.ref 0), some (.int p1), some (.int p2), none] [.int v11] σ
                  refine gl_goto (tgt := 90) hE dL_draws_82 (by decide) ?_
                  cases h
                  exact hret _ _ _ (by omega) dL_draws_90
            · rw [if_pos c6] at h
              refine gl_aload_n (x := 0) (pc' := 66) hE dL_draws_65 rfl 0 rfl rfl ?_
              obtain ⟨q12, hq12, h⟩ := jv_lt_eq h
              have zq12 := jv_xe_or h
              clear h
              rcases zq12 with ⟨e0, eq12, h⟩ | ⟨v13, eq12, h⟩
              · subst eq12
                by_cases x0q12 : e0 = "java/lang/IllegalStateException"
                · rw [if_pos x0q12] at h
                  subst x0q12
                  refine gl_callC (As := []) (pc' := 92) hE hT dL_draws_66 lV_L_72 (okt_X7_walksDrawn hl0 hq12) rfl rfl rfl (by decide) rfl (Nat.le_of_ble_eq_true rfl) (by omega) lCa_L_draws_66_0 (by decide) (Or.inl ⟨3, rfl, dL_draws_91, rfl⟩) ?_
                  refine gl_ldc (v := (-99999 : Int32)) (pc' := 94) hE dL_draws_92 rfl lC_L_16 ?_
                  cases h
                  exact hret _ _ _ (by omega) dL_draws_94
                rw [if_neg x0q12] at h
                by_cases x1q12 : e0 = "java/util/NoSuchElementException"
                · rw [if_pos x1q12] at h
                  subst x1q12
                  refine gl_callC (As := []) (pc' := 96) hE hT dL_draws_66 lV_L_72 (okt_X7_walksDrawn hl0 hq12) rfl rfl rfl (by decide) rfl (Nat.le_of_ble_eq_true rfl) (by omega) lCa_L_draws_66_1 (by decide) (Or.inl ⟨3, rfl, dL_draws_95, rfl⟩) ?_
                  refine gl_ldc (v := (-99998 : Int32)) (pc' := 98) hE dL_draws_96 rfl lC_L_83 ?_
                  cases h
                  exact hret _ _ _ (by omega) dL_draws_98
                rw [if_neg x1q12] at h
                cases h
              · subst eq12
                refine gl_callV (k1 := 0) (o := some (.int v13)) (As := []) (As1 := []) (gg := (fun G => G)) (pc' := 69) hE (fun _ => gl_s1) dL_draws_66 rfl lV_L_72 (ok_X7_walksDrawn hq12) (fun _ => rfl) (fun _ => rfl) (fun _ => rfl) (fun _ => rfl) rfl rfl rfl (by decide) rfl (Nat.le_of_ble_eq_true rfl) (by omega) ?_
                show gl_V gl_1 E 0 69 [some (.ref 0), some (.int p1), some (.int p2), none] [.int v13] σ
                refine gl_goto (tgt := 90) hE dL_draws_69 (by decide) ?_
                cases h
                exact hret _ _ _ (by omega) dL_draws_90
          · rw [if_pos c5] at h
            refine gl_aload_n (x := 0) (pc' := 54) hE dL_draws_53 rfl 0 rfl rfl ?_
            obtain ⟨⟨q14a, q14b⟩, hq14, h⟩ := jv_bd_some h
            dsimp only at h
            have zq14 := jv_xe_or h
            clear h
            rcases zq14 with ⟨e0, eq14, h⟩ | ⟨v15, eq14, h⟩
            · subst eq14
              by_cases x0q14 : e0 = "java/lang/IllegalStateException"
              · rw [if_pos x0q14] at h
                subst x0q14
                refine gl_callC (As := []) (pc' := 92) hE hT dL_draws_54 lV_L_69 (okt_X7_nextWalk hl0 hq14) rfl rfl rfl (by decide) rfl (Nat.le_of_ble_eq_true rfl) (by omega) lCa_L_draws_54_0 (by decide) (Or.inl ⟨3, rfl, dL_draws_91, rfl⟩) ?_
                refine gl_ldc (v := (-99999 : Int32)) (pc' := 94) hE dL_draws_92 rfl lC_L_16 ?_
                cases h
                exact hret _ _ _ (by omega) dL_draws_94
              rw [if_neg x0q14] at h
              by_cases x1q14 : e0 = "java/util/NoSuchElementException"
              · rw [if_pos x1q14] at h
                subst x1q14
                refine gl_callC (As := []) (pc' := 96) hE hT dL_draws_54 lV_L_69 (okt_X7_nextWalk hl0 hq14) rfl rfl rfl (by decide) rfl (Nat.le_of_ble_eq_true rfl) (by omega) lCa_L_draws_54_1 (by decide) (Or.inl ⟨3, rfl, dL_draws_95, rfl⟩) ?_
                refine gl_ldc (v := (-99998 : Int32)) (pc' := 98) hE dL_draws_96 rfl lC_L_83 ?_
                cases h
                exact hret _ _ _ (by omega) dL_draws_98
              rw [if_neg x1q14] at h
              cases h
            · subst eq14
              refine gl_callV (k1 := 0) (o := some (.int v15)) (As := []) (As1 := []) (gg := (fun G => G)) (pc' := 57) hE (fun _ => gl_s1) dL_draws_54 rfl lV_L_69 (ok_X7_nextWalk hq14) (fun _ => rfl) (fun _ => rfl) (fun _ => rfl) (fun _ => rfl) rfl rfl rfl (by decide) rfl (Nat.le_of_ble_eq_true rfl) (by omega) ?_
              show gl_V gl_1 E 0 57 [some (.ref 0), some (.int p1), some (.int p2), none] [.int v15] q14b
              refine gl_goto (tgt := 90) hE dL_draws_57 (by decide) ?_
              cases h
              exact hret _ _ _ (by omega) dL_draws_90
        · rw [if_pos c4] at h
          refine gl_aload_n (x := 0) (pc' := 41) hE dL_draws_40 rfl 0 rfl rfl ?_
          refine gl_iload_n (x := p2) (pc' := 42) hE dL_draws_41 rfl 2 rfl rfl ?_
          obtain ⟨q16, hq16, h⟩ := jv_lt_eq h
          have zq16 := jv_xe_or h
          clear h
          rcases zq16 with ⟨e0, eq16, h⟩ | ⟨v17, eq16, h⟩
          · subst eq16
            by_cases x0q16 : e0 = "java/lang/IllegalStateException"
            · rw [if_pos x0q16] at h
              subst x0q16
              refine gl_callC (As := [.int p2]) (pc' := 92) hE hT dL_draws_42 lV_L_65 (okt_X7_pathEdge hl0 hq16) rfl rfl rfl (by decide) rfl (Nat.le_of_ble_eq_true rfl) (by omega) lCa_L_draws_42_0 (by decide) (Or.inl ⟨3, rfl, dL_draws_91, rfl⟩) ?_
              refine gl_ldc (v := (-99999 : Int32)) (pc' := 94) hE dL_draws_92 rfl lC_L_16 ?_
              cases h
              exact hret _ _ _ (by omega) dL_draws_94
            rw [if_neg x0q16] at h
            by_cases x1q16 : e0 = "java/util/NoSuchElementException"
            · rw [if_pos x1q16] at h
              subst x1q16
              refine gl_callC (As := [.int p2]) (pc' := 96) hE hT dL_draws_42 lV_L_65 (okt_X7_pathEdge hl0 hq16) rfl rfl rfl (by decide) rfl (Nat.le_of_ble_eq_true rfl) (by omega) lCa_L_draws_42_1 (by decide) (Or.inl ⟨3, rfl, dL_draws_95, rfl⟩) ?_
              refine gl_ldc (v := (-99998 : Int32)) (pc' := 98) hE dL_draws_96 rfl lC_L_83 ?_
              cases h
              exact hret _ _ _ (by omega) dL_draws_98
            rw [if_neg x1q16] at h
            cases h
          · subst eq16
            refine gl_callV (k1 := 0) (o := some (.int v17)) (As := [.int p2]) (As1 := [.int p2]) (gg := (fun G => G)) (pc' := 45) hE (fun _ => gl_s1) dL_draws_42 rfl lV_L_65 (ok_X7_pathEdge hq16) (fun _ => rfl) (fun _ => rfl) (fun _ => rfl) (fun _ => rfl) rfl rfl rfl (by decide) rfl (Nat.le_of_ble_eq_true rfl) (by omega) ?_
            show gl_V gl_1 E 0 45 [some (.ref 0), some (.int p1), some (.int p2), none] [.int v17] σ
            refine gl_goto (tgt := 90) hE dL_draws_45 (by decide) ?_
            cases h
            exact hret _ _ _ (by omega) dL_draws_90
      · rw [if_pos c3] at h
        refine gl_aload_n (x := 0) (pc' := 29) hE dL_draws_28 rfl 0 rfl rfl ?_
        obtain ⟨q18, hq18, h⟩ := jv_bd_some h
        have zq18 := jv_xe_or h
        clear h
        rcases zq18 with ⟨e0, eq18, h⟩ | ⟨v19, eq18, h⟩
        · subst eq18
          by_cases x0q18 : e0 = "java/lang/IllegalStateException"
          · rw [if_pos x0q18] at h
            subst x0q18
            refine gl_callC (As := []) (pc' := 92) hE hT dL_draws_29 lV_L_62 (okt_X7_pathEdges hl0 hq18) rfl rfl rfl (by decide) rfl (Nat.le_of_ble_eq_true rfl) (by omega) lCa_L_draws_29_0 (by decide) (Or.inl ⟨3, rfl, dL_draws_91, rfl⟩) ?_
            refine gl_ldc (v := (-99999 : Int32)) (pc' := 94) hE dL_draws_92 rfl lC_L_16 ?_
            cases h
            exact hret _ _ _ (by omega) dL_draws_94
          rw [if_neg x0q18] at h
          by_cases x1q18 : e0 = "java/util/NoSuchElementException"
          · rw [if_pos x1q18] at h
            subst x1q18
            refine gl_callC (As := []) (pc' := 96) hE hT dL_draws_29 lV_L_62 (okt_X7_pathEdges hl0 hq18) rfl rfl rfl (by decide) rfl (Nat.le_of_ble_eq_true rfl) (by omega) lCa_L_draws_29_1 (by decide) (Or.inl ⟨3, rfl, dL_draws_95, rfl⟩) ?_
            refine gl_ldc (v := (-99998 : Int32)) (pc' := 98) hE dL_draws_96 rfl lC_L_83 ?_
            cases h
            exact hret _ _ _ (by omega) dL_draws_98
          rw [if_neg x1q18] at h
          cases h
        · subst eq18
          refine gl_callV (k1 := 0) (o := some (.int v19)) (As := []) (As1 := []) (gg := (fun G => G)) (pc' := 32) hE (fun _ => gl_s1) dL_draws_29 rfl lV_L_62 (ok_X7_pathEdges hq18) (fun _ => rfl) (fun _ => rfl) (fun _ => rfl) (fun _ => rfl) rfl rfl rfl (by decide) rfl (Nat.le_of_ble_eq_true rfl) (by omega) ?_
          show gl_V gl_1 E 0 32 [some (.ref 0), some (.int p1), some (.int p2), none] [.int v19] σ
          refine gl_goto (tgt := 90) hE dL_draws_32 (by decide) ?_
          cases h
          exact hret _ _ _ (by omega) dL_draws_90
    · rw [if_pos c2] at h
      refine gl_aload_n (x := 0) (pc' := 17) hE dL_draws_16 rfl 0 rfl rfl ?_
      obtain ⟨q20, hq20, h⟩ := jv_lt_eq h
      have zq20 := jv_xe_or h
      clear h
      rcases zq20 with ⟨e0, eq20, h⟩ | ⟨v21, eq20, h⟩
      · subst eq20
        by_cases x0q20 : e0 = "java/lang/IllegalStateException"
        · rw [if_pos x0q20] at h
          subst x0q20
          refine gl_callC (As := []) (pc' := 92) hE hT dL_draws_17 lV_L_59 (okt_X7_pathsDrawn hl0 hq20) rfl rfl rfl (by decide) rfl (Nat.le_of_ble_eq_true rfl) (by omega) lCa_L_draws_17_0 (by decide) (Or.inl ⟨3, rfl, dL_draws_91, rfl⟩) ?_
          refine gl_ldc (v := (-99999 : Int32)) (pc' := 94) hE dL_draws_92 rfl lC_L_16 ?_
          cases h
          exact hret _ _ _ (by omega) dL_draws_94
        rw [if_neg x0q20] at h
        by_cases x1q20 : e0 = "java/util/NoSuchElementException"
        · rw [if_pos x1q20] at h
          subst x1q20
          refine gl_callC (As := []) (pc' := 96) hE hT dL_draws_17 lV_L_59 (okt_X7_pathsDrawn hl0 hq20) rfl rfl rfl (by decide) rfl (Nat.le_of_ble_eq_true rfl) (by omega) lCa_L_draws_17_1 (by decide) (Or.inl ⟨3, rfl, dL_draws_95, rfl⟩) ?_
          refine gl_ldc (v := (-99998 : Int32)) (pc' := 98) hE dL_draws_96 rfl lC_L_83 ?_
          cases h
          exact hret _ _ _ (by omega) dL_draws_98
        rw [if_neg x1q20] at h
        cases h
      · subst eq20
        refine gl_callV (k1 := 0) (o := some (.int v21)) (As := []) (As1 := []) (gg := (fun G => G)) (pc' := 20) hE (fun _ => gl_s1) dL_draws_17 rfl lV_L_59 (ok_X7_pathsDrawn hq20) (fun _ => rfl) (fun _ => rfl) (fun _ => rfl) (fun _ => rfl) rfl rfl rfl (by decide) rfl (Nat.le_of_ble_eq_true rfl) (by omega) ?_
        show gl_V gl_1 E 0 20 [some (.ref 0), some (.int p1), some (.int p2), none] [.int v21] σ
        refine gl_goto (tgt := 90) hE dL_draws_20 (by decide) ?_
        cases h
        exact hret _ _ _ (by omega) dL_draws_90
  · rw [if_pos c1] at h
    refine gl_aload_n (x := 0) (pc' := 5) hE dL_draws_4 rfl 0 rfl rfl ?_
    obtain ⟨⟨q22a, q22b⟩, hq22, h⟩ := jv_bd_some h
    dsimp only at h
    have zq22 := jv_xe_or h
    clear h
    rcases zq22 with ⟨e0, eq22, h⟩ | ⟨v23, eq22, h⟩
    · subst eq22
      by_cases x0q22 : e0 = "java/lang/IllegalStateException"
      · rw [if_pos x0q22] at h
        subst x0q22
        refine gl_callC (As := []) (pc' := 92) hE hT dL_draws_5 lV_L_55 (okt_X7_nextPath hl0 hq22) rfl rfl rfl (by decide) rfl (Nat.le_of_ble_eq_true rfl) (by omega) lCa_L_draws_5_0 (by decide) (Or.inl ⟨3, rfl, dL_draws_91, rfl⟩) ?_
        refine gl_ldc (v := (-99999 : Int32)) (pc' := 94) hE dL_draws_92 rfl lC_L_16 ?_
        cases h
        exact hret _ _ _ (by omega) dL_draws_94
      rw [if_neg x0q22] at h
      by_cases x1q22 : e0 = "java/util/NoSuchElementException"
      · rw [if_pos x1q22] at h
        subst x1q22
        refine gl_callC (As := []) (pc' := 96) hE hT dL_draws_5 lV_L_55 (okt_X7_nextPath hl0 hq22) rfl rfl rfl (by decide) rfl (Nat.le_of_ble_eq_true rfl) (by omega) lCa_L_draws_5_1 (by decide) (Or.inl ⟨3, rfl, dL_draws_95, rfl⟩) ?_
        refine gl_ldc (v := (-99998 : Int32)) (pc' := 98) hE dL_draws_96 rfl lC_L_83 ?_
        cases h
        exact hret _ _ _ (by omega) dL_draws_98
      rw [if_neg x1q22] at h
      cases h
    · subst eq22
      refine gl_callV (k1 := 0) (o := some (.int v23)) (As := []) (As1 := []) (gg := (fun G => G)) (pc' := 8) hE (fun _ => gl_s1) dL_draws_5 rfl lV_L_55 (ok_X7_nextPath hq22) (fun _ => rfl) (fun _ => rfl) (fun _ => rfl) (fun _ => rfl) rfl rfl rfl (by decide) rfl (Nat.le_of_ble_eq_true rfl) (by omega) ?_
      show gl_V gl_1 E 0 8 [some (.ref 0), some (.int p1), some (.int p2), none] [.int v23] q22b
      refine gl_goto (tgt := 90) hE dL_draws_8 (by decide) ?_
      cases h
      exact hret _ _ _ (by omega) dL_draws_90
noncomputable def f_L_asks (σ : jv_S) (p1 : Int32) (p2 : Int32) (p3 : Int32) (p4 : Int32) : Option (Int32 × jv_S) := if p1 = 0 then (jv_bd (f_X7_distance σ p2 p3) (fun q15 => (fun (q15a : Except String Int32) (q15b : jv_S) => jv_xe q15a (fun e0 => if e0 = "java/lang/IllegalArgumentException" then some ((-99999 : Int32), q15b) else (if e0 = "java/util/NoSuchElementException" then some ((-99998 : Int32), q15b) else (none))) (fun v16 => some (v16, q15b))) q15.1 q15.2)) else (if p1 = (1 : Int32) then (jv_bd (f_X7_allowedLength σ p2 p3) (fun q13 => (fun (q13a : Except String Int32) (q13b : jv_S) => jv_xe q13a (fun e0 => if e0 = "java/lang/IllegalArgumentException" then some ((-99999 : Int32), q13b) else (if e0 = "java/util/NoSuchElementException" then some ((-99998 : Int32), q13b) else (none))) (fun v14 => some (v14, q13b))) q13.1 q13.2)) else (if p1 = (2 : Int32) then (jv_bd (f_X7_allowedEdges σ p2 p3) (fun q11 => (fun (q11a : Except String Int32) (q11b : jv_S) => jv_xe q11a (fun e0 => if e0 = "java/lang/IllegalArgumentException" then some ((-99999 : Int32), q11b) else (if e0 = "java/util/NoSuchElementException" then some ((-99998 : Int32), q11b) else (none))) (fun v12 => some (v12, q11b))) q11.1 q11.2)) else (if p1 = (3 : Int32) then (jv_bd (f_X7_allowedEdge σ p2 p3 p4) (fun q9 => (fun (q9a : Except String Int32) (q9b : jv_S) => jv_xe q9a (fun e0 => if e0 = "java/lang/IllegalArgumentException" then some ((-99999 : Int32), q9b) else (if e0 = "java/util/NoSuchElementException" then some ((-99998 : Int32), q9b) else (none))) (fun v10 => some (v10, q9b))) q9.1 q9.2)) else (jv_lt (if p1 = (5 : Int32) then (true) else (false)) (fun q6 => jv_bd (f_X7_disjointLength σ p2 p3 p4 (jv_b q6)) (fun q7 => (fun (q7a : Except String Int32) (q7b : jv_S) => jv_xe q7a (fun e0 => if e0 = "java/lang/IllegalArgumentException" then some ((-99999 : Int32), q7b) else (if e0 = "java/util/NoSuchElementException" then some ((-99998 : Int32), q7b) else (none))) (fun v8 => some (v8, q7b))) q7.1 q7.2))))))
theorem lCa_L_asks_72_0 : gl_Ca [(0, 75, 76, 14), (0, 75, 81, 81)] 72 "java/lang/IllegalArgumentException" 76 := ⟨[], (⟨0, 75, 76, 14⟩ : ExceptionTableEntry), [(⟨0, 75, 81, 81⟩ : ExceptionTableEntry)], "java/lang/IllegalArgumentException", rfl, (fun z hz => nomatch hz), by decide, by decide, jv_w (jv_tb 267 (by decide +kernel)) rfl, jv_tb 280 (by decide +kernel), rfl⟩
theorem lCa_L_asks_72_1 : gl_Ca [(0, 75, 76, 14), (0, 75, 81, 81)] 72 "java/util/NoSuchElementException" 81 := ⟨[(⟨0, 75, 76, 14⟩ : ExceptionTableEntry)], (⟨0, 75, 81, 81⟩ : ExceptionTableEntry), [], "java/util/NoSuchElementException", rfl, (fun z hz => Or.inr (by rw [List.mem_singleton.mp hz]; exact ⟨by decide, "java/lang/IllegalArgumentException", jv_w (jv_tb 267 (by decide +kernel)) rfl, by decide +kernel⟩)), by decide, by decide, jv_w (jv_tb 530 (by decide +kernel)) rfl, jv_tb 620 (by decide +kernel), rfl⟩
theorem lCa_L_asks_51_0 : gl_Ca [(0, 75, 76, 14), (0, 75, 81, 81)] 51 "java/lang/IllegalArgumentException" 76 := ⟨[], (⟨0, 75, 76, 14⟩ : ExceptionTableEntry), [(⟨0, 75, 81, 81⟩ : ExceptionTableEntry)], "java/lang/IllegalArgumentException", rfl, (fun z hz => nomatch hz), by decide, by decide, jv_w (jv_tb 267 (by decide +kernel)) rfl, jv_tb 280 (by decide +kernel), rfl⟩
theorem lCa_L_asks_51_1 : gl_Ca [(0, 75, 76, 14), (0, 75, 81, 81)] 51 "java/util/NoSuchElementException" 81 := ⟨[(⟨0, 75, 76, 14⟩ : ExceptionTableEntry)], (⟨0, 75, 81, 81⟩ : ExceptionTableEntry), [], "java/util/NoSuchElementException", rfl, (fun z hz => Or.inr (by rw [List.mem_singleton.mp hz]; exact ⟨by decide, "java/lang/IllegalArgumentException", jv_w (jv_tb 267 (by decide +kernel)) rfl, by decide +kernel⟩)), by decide, by decide, jv_w (jv_tb 530 (by decide +kernel)) rfl, jv_tb 620 (by decide +kernel), rfl⟩
theorem lCa_L_asks_35_0 : gl_Ca [(0, 75, 76, 14), (0, 75, 81, 81)] 35 "java/lang/IllegalArgumentException" 76 := ⟨[], (⟨0, 75, 76, 14⟩ : ExceptionTableEntry), [(⟨0, 75, 81, 81⟩ : ExceptionTableEntry)], "java/lang/IllegalArgumentException", rfl, (fun z hz => nomatch hz), by decide, by decide, jv_w (jv_tb 267 (by decide +kernel)) rfl, jv_tb 280 (by decide +kernel), rfl⟩
theorem lCa_L_asks_35_1 : gl_Ca [(0, 75, 76, 14), (0, 75, 81, 81)] 35 "java/util/NoSuchElementException" 81 := ⟨[(⟨0, 75, 76, 14⟩ : ExceptionTableEntry)], (⟨0, 75, 81, 81⟩ : ExceptionTableEntry), [], "java/util/NoSuchElementException", rfl, (fun z hz => Or.inr (by rw [List.mem_singleton.mp hz]; exact ⟨by decide, "java/lang/IllegalArgumentException", jv_w (jv_tb 267 (by decide +kernel)) rfl, by decide +kernel⟩)), by decide, by decide, jv_w (jv_tb 530 (by decide +kernel)) rfl, jv_tb 620 (by decide +kernel), rfl⟩
theorem lCa_L_asks_21_0 : gl_Ca [(0, 75, 76, 14), (0, 75, 81, 81)] 21 "java/lang/IllegalArgumentException" 76 := ⟨[], (⟨0, 75, 76, 14⟩ : ExceptionTableEntry), [(⟨0, 75, 81, 81⟩ : ExceptionTableEntry)], "java/lang/IllegalArgumentException", rfl, (fun z hz => nomatch hz), by decide, by decide, jv_w (jv_tb 267 (by decide +kernel)) rfl, jv_tb 280 (by decide +kernel), rfl⟩
theorem lCa_L_asks_21_1 : gl_Ca [(0, 75, 76, 14), (0, 75, 81, 81)] 21 "java/util/NoSuchElementException" 81 := ⟨[(⟨0, 75, 76, 14⟩ : ExceptionTableEntry)], (⟨0, 75, 81, 81⟩ : ExceptionTableEntry), [], "java/util/NoSuchElementException", rfl, (fun z hz => Or.inr (by rw [List.mem_singleton.mp hz]; exact ⟨by decide, "java/lang/IllegalArgumentException", jv_w (jv_tb 267 (by decide +kernel)) rfl, by decide +kernel⟩)), by decide, by decide, jv_w (jv_tb 530 (by decide +kernel)) rfl, jv_tb 620 (by decide +kernel), rfl⟩
theorem lCa_L_asks_7_0 : gl_Ca [(0, 75, 76, 14), (0, 75, 81, 81)] 7 "java/lang/IllegalArgumentException" 76 := ⟨[], (⟨0, 75, 76, 14⟩ : ExceptionTableEntry), [(⟨0, 75, 81, 81⟩ : ExceptionTableEntry)], "java/lang/IllegalArgumentException", rfl, (fun z hz => nomatch hz), by decide, by decide, jv_w (jv_tb 267 (by decide +kernel)) rfl, jv_tb 280 (by decide +kernel), rfl⟩
theorem lCa_L_asks_7_1 : gl_Ca [(0, 75, 76, 14), (0, 75, 81, 81)] 7 "java/util/NoSuchElementException" 81 := ⟨[(⟨0, 75, 76, 14⟩ : ExceptionTableEntry)], (⟨0, 75, 81, 81⟩ : ExceptionTableEntry), [], "java/util/NoSuchElementException", rfl, (fun z hz => Or.inr (by rw [List.mem_singleton.mp hz]; exact ⟨by decide, "java/lang/IllegalArgumentException", jv_w (jv_tb 267 (by decide +kernel)) rfl, by decide +kernel⟩)), by decide, by decide, jv_w (jv_tb 530 (by decide +kernel)) rfl, jv_tb 620 (by decide +kernel), rfl⟩
set_option maxRecDepth 100000 in
set_option maxHeartbeats 4000000 in
theorem ok_L_asks {G : jv_G} {l : Launch} (hl0 : l.stackTraces = false) {σ : jv_S} {p1 : Int32} {p2 : Int32} {p3 : Int32} {p4 : Int32} {r : Int32 × jv_S} (h : f_L_asks σ p1 p2 p3 p4 = some r) : gl_M0 gl_1 G l 8 M_L_asks (gl_cw M_L_asks [(0, 75, 76, 14), (0, 75, 81, 81)]) [.ref 0, .int p1, .int p2, .int p3, .int p4] σ r.1 r.2 1 := by
  refine gl_of (L0 := [some (.ref 0), some (.int p1), some (.int p2), some (.int p3), some (.int p4), none]) (Or.inr ⟨_, rfl⟩) (by decide +kernel) (Nat.le_of_ble_eq_true rfl) rfl (jv_okI _) (fun _ _ h => h.1) (fun E e1 e2 hE hT hret => ?_)
  subst e1; subst e2
  unfold f_L_asks at h
  have hT := hT _ rfl
  refine gl_iload_n (x := p1) (pc' := 1) hE dL_asks_0 rfl 1 rfl rfl ?_
  refine gl_if_ne (x := p1) (tgt := 13) (pc' := 4) hE dL_asks_1 (by decide) rfl (fun c1 => ?_) (fun c1 => ?_)
  · rw [if_neg c1] at h
    refine gl_iload_n (x := p1) (pc' := 14) hE dL_asks_13 rfl 1 rfl rfl ?_
    refine gl_iconst (v := (1 : Int32)) (pc' := 15) hE dL_asks_14 rfl (by decide) ?_
    refine gl_icmp_ne (x := p1) (y := (1 : Int32)) (tgt := 27) (pc' := 18) hE dL_asks_15 (by decide) rfl (fun c2 => ?_) (fun c2 => ?_)
    · rw [if_neg c2] at h
      refine gl_iload_n (x := p1) (pc' := 28) hE dL_asks_27 rfl 1 rfl rfl ?_
      refine gl_iconst (v := (2 : Int32)) (pc' := 29) hE dL_asks_28 rfl (by decide) ?_
      refine gl_icmp_ne (x := p1) (y := (2 : Int32)) (tgt := 41) (pc' := 32) hE dL_asks_29 (by decide) rfl (fun c3 => ?_) (fun c3 => ?_)
      · rw [if_neg c3] at h
        refine gl_iload_n (x := p1) (pc' := 42) hE dL_asks_41 rfl 1 rfl rfl ?_
        refine gl_iconst (v := (3 : Int32)) (pc' := 43) hE dL_asks_42 rfl (by decide) ?_
        refine gl_icmp_ne (x := p1) (y := (3 : Int32)) (tgt := 57) (pc' := 46) hE dL_asks_43 (by decide) rfl (fun c4 => ?_) (fun c4 => ?_)
        · rw [if_neg c4] at h
          refine gl_aload_n (x := 0) (pc' := 58) hE dL_asks_57 rfl 0 rfl rfl ?_
          refine gl_iload_n (x := p2) (pc' := 59) hE dL_asks_58 rfl 2 rfl rfl ?_
          refine gl_iload_n (x := p3) (pc' := 60) hE dL_asks_59 rfl 3 rfl rfl ?_
          refine gl_iload (x := p4) (pc' := 62) hE dL_asks_60 rfl rfl ?_
          refine gl_iload_n (x := p1) (pc' := 63) hE dL_asks_62 rfl 1 rfl rfl ?_
          refine gl_iconst (v := (5 : Int32)) (pc' := 64) hE dL_asks_63 rfl (by decide) ?_
          obtain ⟨q6, hq6, h⟩ := jv_lt_eq h
          have kq6 : gl_V gl_1 E 0 72 [none, none, none, none, none, none] [.int (jv_b q6), .int p4, .int p3, .int p2, .ref 0] σ := by
            obtain ⟨⟨q7a, q7b⟩, hq7, h⟩ := jv_bd_some h
            dsimp only at h
            have zq7 := jv_xe_or h
            clear h
            rcases zq7 with ⟨e0, eq7, h⟩ | ⟨v8, eq7, h⟩
            · subst eq7
              by_cases x0q7 : e0 = "java/lang/IllegalArgumentException"
              · rw [if_pos x0q7] at h
                subst x0q7
                refine gl_callC (As := [.int p2, .int p3, .int p4, .int (jv_b q6)]) (pc' := 78) hE hT dL_asks_72 lV_L_96 (okt_X7_disjointLength hl0 hq7) rfl rfl rfl (by decide) rfl (Nat.le_of_ble_eq_true rfl) (by omega) lCa_L_asks_72_0 (by decide) (Or.inr ⟨dL_asks_76, rfl⟩) ?_
                refine gl_ldc (v := (-99999 : Int32)) (pc' := 80) hE dL_asks_78 rfl lC_L_16 ?_
                cases h
                exact hret _ _ _ (by omega) dL_asks_80
              rw [if_neg x0q7] at h
              by_cases x1q7 : e0 = "java/util/NoSuchElementException"
              · rw [if_pos x1q7] at h
                subst x1q7
                refine gl_callC (As := [.int p2, .int p3, .int p4, .int (jv_b q6)]) (pc' := 83) hE hT dL_asks_72 lV_L_96 (okt_X7_disjointLength hl0 hq7) rfl rfl rfl (by decide) rfl (Nat.le_of_ble_eq_true rfl) (by omega) lCa_L_asks_72_1 (by decide) (Or.inr ⟨dL_asks_81, rfl⟩) ?_
                refine gl_ldc (v := (-99998 : Int32)) (pc' := 85) hE dL_asks_83 rfl lC_L_83 ?_
                cases h
                exact hret _ _ _ (by omega) dL_asks_85
              rw [if_neg x1q7] at h
              cases h
            · subst eq7
              refine gl_callV (k1 := 0) (o := some (.int v8)) (As := [.int p2, .int p3, .int p4, .int (jv_b q6)]) (As1 := [.int p2, .int p3, .int p4, .int (jv_b q6)]) (gg := (fun G => G)) (pc' := 75) hE (fun _ => gl_s1) dL_asks_72 rfl lV_L_96 (ok_X7_disjointLength hq7) (fun _ => rfl) (fun _ => rfl) (fun _ => rfl) (fun _ => rfl) rfl rfl rfl (by decide) rfl (Nat.le_of_ble_eq_true rfl) (by omega) ?_
              show gl_V gl_1 E 0 75 [none, none, none, none, none, none] [.int v8] q7b
              cases h
              exact hret _ _ _ (by omega) dL_asks_75
          refine gl_icmp_ne (x := p1) (y := (5 : Int32)) (tgt := 71) (pc' := 67) hE dL_asks_64 (by decide) rfl (fun c5 => ?_) (fun c5 => ?_)
          · rw [if_neg c5] at hq6
            refine gl_iconst (v := (0 : Int32)) (pc' := 72) hE dL_asks_71 rfl (by decide) ?_
            cases hq6
            exact gl_fg [false, false, false, false, false, true] (by omega) kq6
          · rw [if_pos c5] at hq6
            refine gl_iconst (v := (1 : Int32)) (pc' := 68) hE dL_asks_67 rfl (by decide) ?_
            refine gl_goto (tgt := 72) hE dL_asks_68 (by decide) ?_
            cases hq6
            exact gl_fg [false, false, false, false, false, true] (by omega) kq6
        · rw [if_pos c4] at h
          refine gl_aload_n (x := 0) (pc' := 47) hE dL_asks_46 rfl 0 rfl rfl ?_
          refine gl_iload_n (x := p2) (pc' := 48) hE dL_asks_47 rfl 2 rfl rfl ?_
          refine gl_iload_n (x := p3) (pc' := 49) hE dL_asks_48 rfl 3 rfl rfl ?_
          refine gl_iload (x := p4) (pc' := 51) hE dL_asks_49 rfl rfl ?_
          obtain ⟨⟨q9a, q9b⟩, hq9, h⟩ := jv_bd_some h
          dsimp only at h
          have zq9 := jv_xe_or h
          clear h
          rcases zq9 with ⟨e0, eq9, h⟩ | ⟨v10, eq9, h⟩
          · subst eq9
            by_cases x0q9 : e0 = "java/lang/IllegalArgumentException"
            · rw [if_pos x0q9] at h
              subst x0q9
              refine gl_callC (As := [.int p2, .int p3, .int p4]) (pc' := 78) hE hT dL_asks_51 lV_L_93 (okt_X7_allowedEdge hl0 hq9) rfl rfl rfl (by decide) rfl (Nat.le_of_ble_eq_true rfl) (by omega) lCa_L_asks_51_0 (by decide) (Or.inr ⟨dL_asks_76, rfl⟩) ?_
              refine gl_ldc (v := (-99999 : Int32)) (pc' := 80) hE dL_asks_78 rfl lC_L_16 ?_
              cases h
              exact hret _ _ _ (by omega) dL_asks_80
            rw [if_neg x0q9] at h
            by_cases x1q9 : e0 = "java/util/NoSuchElementException"
            · rw [if_pos x1q9] at h
              subst x1q9
              refine gl_callC (As := [.int p2, .int p3, .int p4]) (pc' := 83) hE hT dL_asks_51 lV_L_93 (okt_X7_allowedEdge hl0 hq9) rfl rfl rfl (by decide) rfl (Nat.le_of_ble_eq_true rfl) (by omega) lCa_L_asks_51_1 (by decide) (Or.inr ⟨dL_asks_81, rfl⟩) ?_
              refine gl_ldc (v := (-99998 : Int32)) (pc' := 85) hE dL_asks_83 rfl lC_L_83 ?_
              cases h
              exact hret _ _ _ (by omega) dL_asks_85
            rw [if_neg x1q9] at h
            cases h
          · subst eq9
            refine gl_callV (k1 := 0) (o := some (.int v10)) (As := [.int p2, .int p3, .int p4]) (As1 := [.int p2, .int p3, .int p4]) (gg := (fun G => G)) (pc' := 54) hE (fun _ => gl_s1) dL_asks_51 rfl lV_L_93 (ok_X7_allowedEdge hq9) (fun _ => rfl) (fun _ => rfl) (fun _ => rfl) (fun _ => rfl) rfl rfl rfl (by decide) rfl (Nat.le_of_ble_eq_true rfl) (by omega) ?_
            show gl_V gl_1 E 0 54 [some (.ref 0), some (.int p1), some (.int p2), some (.int p3), some (.int p4), none] [.int v10] q9b
            refine gl_goto (tgt := 75) hE dL_asks_54 (by decide) ?_
            cases h
            exact hret _ _ _ (by omega) dL_asks_75
      · rw [if_pos c3] at h
        refine gl_aload_n (x := 0) (pc' := 33) hE dL_asks_32 rfl 0 rfl rfl ?_
        refine gl_iload_n (x := p2) (pc' := 34) hE dL_asks_33 rfl 2 rfl rfl ?_
        refine gl_iload_n (x := p3) (pc' := 35) hE dL_asks_34 rfl 3 rfl rfl ?_
        obtain ⟨⟨q11a, q11b⟩, hq11, h⟩ := jv_bd_some h
        dsimp only at h
        have zq11 := jv_xe_or h
        clear h
        rcases zq11 with ⟨e0, eq11, h⟩ | ⟨v12, eq11, h⟩
        · subst eq11
          by_cases x0q11 : e0 = "java/lang/IllegalArgumentException"
          · rw [if_pos x0q11] at h
            subst x0q11
            refine gl_callC (As := [.int p2, .int p3]) (pc' := 78) hE hT dL_asks_35 lV_L_90 (okt_X7_allowedEdges hl0 hq11) rfl rfl rfl (by decide) rfl (Nat.le_of_ble_eq_true rfl) (by omega) lCa_L_asks_35_0 (by decide) (Or.inr ⟨dL_asks_76, rfl⟩) ?_
            refine gl_ldc (v := (-99999 : Int32)) (pc' := 80) hE dL_asks_78 rfl lC_L_16 ?_
            cases h
            exact hret _ _ _ (by omega) dL_asks_80
          rw [if_neg x0q11] at h
          by_cases x1q11 : e0 = "java/util/NoSuchElementException"
          · rw [if_pos x1q11] at h
            subst x1q11
            refine gl_callC (As := [.int p2, .int p3]) (pc' := 83) hE hT dL_asks_35 lV_L_90 (okt_X7_allowedEdges hl0 hq11) rfl rfl rfl (by decide) rfl (Nat.le_of_ble_eq_true rfl) (by omega) lCa_L_asks_35_1 (by decide) (Or.inr ⟨dL_asks_81, rfl⟩) ?_
            refine gl_ldc (v := (-99998 : Int32)) (pc' := 85) hE dL_asks_83 rfl lC_L_83 ?_
            cases h
            exact hret _ _ _ (by omega) dL_asks_85
          rw [if_neg x1q11] at h
          cases h
        · subst eq11
          refine gl_callV (k1 := 0) (o := some (.int v12)) (As := [.int p2, .int p3]) (As1 := [.int p2, .int p3]) (gg := (fun G => G)) (pc' := 38) hE (fun _ => gl_s1) dL_asks_35 rfl lV_L_90 (ok_X7_allowedEdges hq11) (fun _ => rfl) (fun _ => rfl) (fun _ => rfl) (fun _ => rfl) rfl rfl rfl (by decide) rfl (Nat.le_of_ble_eq_true rfl) (by omega) ?_
          show gl_V gl_1 E 0 38 [some (.ref 0), some (.int p1), some (.int p2), some (.int p3), some (.int p4), none] [.int v12] q11b
          refine gl_goto (tgt := 75) hE dL_asks_38 (by decide) ?_
          cases h
          exact hret _ _ _ (by omega) dL_asks_75
    · rw [if_pos c2] at h
      refine gl_aload_n (x := 0) (pc' := 19) hE dL_asks_18 rfl 0 rfl rfl ?_
      refine gl_iload_n (x := p2) (pc' := 20) hE dL_asks_19 rfl 2 rfl rfl ?_
      refine gl_iload_n (x := p3) (pc' := 21) hE dL_asks_20 rfl 3 rfl rfl ?_
      obtain ⟨⟨q13a, q13b⟩, hq13, h⟩ := jv_bd_some h
      dsimp only at h
      have zq13 := jv_xe_or h
      clear h
      rcases zq13 with ⟨e0, eq13, h⟩ | ⟨v14, eq13, h⟩
      · subst eq13
        by_cases x0q13 : e0 = "java/lang/IllegalArgumentException"
        · rw [if_pos x0q13] at h
          subst x0q13
          refine gl_callC (As := [.int p2, .int p3]) (pc' := 78) hE hT dL_asks_21 lV_L_87 (okt_X7_allowedLength hl0 hq13) rfl rfl rfl (by decide) rfl (Nat.le_of_ble_eq_true rfl) (by omega) lCa_L_asks_21_0 (by decide) (Or.inr ⟨dL_asks_76, rfl⟩) ?_
          refine gl_ldc (v := (-99999 : Int32)) (pc' := 80) hE dL_asks_78 rfl lC_L_16 ?_
          cases h
          exact hret _ _ _ (by omega) dL_asks_80
        rw [if_neg x0q13] at h
        by_cases x1q13 : e0 = "java/util/NoSuchElementException"
        · rw [if_pos x1q13] at h
          subst x1q13
          refine gl_callC (As := [.int p2, .int p3]) (pc' := 83) hE hT dL_asks_21 lV_L_87 (okt_X7_allowedLength hl0 hq13) rfl rfl rfl (by decide) rfl (Nat.le_of_ble_eq_true rfl) (by omega) lCa_L_asks_21_1 (by decide) (Or.inr ⟨dL_asks_81, rfl⟩) ?_
          refine gl_ldc (v := (-99998 : Int32)) (pc' := 85) hE dL_asks_83 rfl lC_L_83 ?_
          cases h
          exact hret _ _ _ (by omega) dL_asks_85
        rw [if_neg x1q13] at h
        cases h
      · subst eq13
        refine gl_callV (k1 := 0) (o := some (.int v14)) (As := [.int p2, .int p3]) (As1 := [.int p2, .int p3]) (gg := (fun G => G)) (pc' := 24) hE (fun _ => gl_s1) dL_asks_21 rfl lV_L_87 (ok_X7_allowedLength hq13) (fun _ => rfl) (fun _ => rfl) (fun _ => rfl) (fun _ => rfl) rfl rfl rfl (by decide) rfl (Nat.le_of_ble_eq_true rfl) (by omega) ?_
        show gl_V gl_1 E 0 24 [some (.ref 0), some (.int p1), some (.int p2), some (.int p3), some (.int p4), none] [.int v14] q13b
        refine gl_goto (tgt := 75) hE dL_asks_24 (by decide) ?_
        cases h
        exact hret _ _ _ (by omega) dL_asks_75
  · rw [if_pos c1] at h
    refine gl_aload_n (x := 0) (pc' := 5) hE dL_asks_4 rfl 0 rfl rfl ?_
    refine gl_iload_n (x := p2) (pc' := 6) hE dL_asks_5 rfl 2 rfl rfl ?_
    refine gl_iload_n (x := p3) (pc' := 7) hE dL_asks_6 rfl 3 rfl rfl ?_
    obtain ⟨⟨q15a, q15b⟩, hq15, h⟩ := jv_bd_some h
    dsimp only at h
    have zq15 := jv_xe_or h
    clear h
    rcases zq15 with ⟨e0, eq15, h⟩ | ⟨v16, eq15, h⟩
    · subst eq15
      by_cases x0q15 : e0 = "java/lang/IllegalArgumentException"
      · rw [if_pos x0q15] at h
        subst x0q15
        refine gl_callC (As := [.int p2, .int p3]) (pc' := 78) hE hT dL_asks_7 lV_L_84 (okt_X7_distance hl0 hq15) rfl rfl rfl (by decide) rfl (Nat.le_of_ble_eq_true rfl) (by omega) lCa_L_asks_7_0 (by decide) (Or.inr ⟨dL_asks_76, rfl⟩) ?_
        refine gl_ldc (v := (-99999 : Int32)) (pc' := 80) hE dL_asks_78 rfl lC_L_16 ?_
        cases h
        exact hret _ _ _ (by omega) dL_asks_80
      rw [if_neg x0q15] at h
      by_cases x1q15 : e0 = "java/util/NoSuchElementException"
      · rw [if_pos x1q15] at h
        subst x1q15
        refine gl_callC (As := [.int p2, .int p3]) (pc' := 83) hE hT dL_asks_7 lV_L_84 (okt_X7_distance hl0 hq15) rfl rfl rfl (by decide) rfl (Nat.le_of_ble_eq_true rfl) (by omega) lCa_L_asks_7_1 (by decide) (Or.inr ⟨dL_asks_81, rfl⟩) ?_
        refine gl_ldc (v := (-99998 : Int32)) (pc' := 85) hE dL_asks_83 rfl lC_L_83 ?_
        cases h
        exact hret _ _ _ (by omega) dL_asks_85
      rw [if_neg x1q15] at h
      cases h
    · subst eq15
      refine gl_callV (k1 := 0) (o := some (.int v16)) (As := [.int p2, .int p3]) (As1 := [.int p2, .int p3]) (gg := (fun G => G)) (pc' := 10) hE (fun _ => gl_s1) dL_asks_7 rfl lV_L_84 (ok_X7_distance hq15) (fun _ => rfl) (fun _ => rfl) (fun _ => rfl) (fun _ => rfl) rfl rfl rfl (by decide) rfl (Nat.le_of_ble_eq_true rfl) (by omega) ?_
      show gl_V gl_1 E 0 10 [some (.ref 0), some (.int p1), some (.int p2), some (.int p3), some (.int p4), none] [.int v16] q15b
      refine gl_goto (tgt := 75) hE dL_asks_10 (by decide) ?_
      cases h
      exact hret _ _ _ (by omega) dL_asks_75
