noncomputable def f_X7_nodes (σ : jv_S) : Int32 := (f_X3_nodeTotal σ)
set_option maxRecDepth 100000 in
set_option maxHeartbeats 4000000 in
theorem ok_X7_nodes {G : jv_G} {l : Launch} {σ : jv_S} {r : Int32} (h : f_X7_nodes σ = r) : jv_Cn G l 2 M_X7_nodes [.ref 0] σ (some (.int r)) σ := by
  refine jv_of (L0 := [some (.ref 0)]) (by decide +kernel) (Nat.le_of_ble_eq_true rfl) rfl (jv_okI _) (fun E e1 e2 hE hret => ?_)
  unfold f_X7_nodes at h
  refine jv_aload_n (x := 0) (pc' := 1) hE dX7_nodes_0 rfl 0 rfl rfl ?_
  refine jv_get (v := .ref 1) (pc' := 4) hE dX7_nodes_1 rfl lF_X7_10 rfl rfl rfl ?_
  refine jv_callV (pc' := 7) (o := some (.int (f_X3_nodeTotal σ))) (σ' := σ) hE dX7_nodes_4 rfl lV_X7_123 (ok_X3_nodeTotal rfl) rfl rfl rfl (by decide) rfl (Nat.le_of_ble_eq_true rfl) ?_
  show jv_V E 7 [some (.ref 0)] [.int (f_X3_nodeTotal σ)] σ
  cases h
  exact hret _ _ dX7_nodes_7
noncomputable def f_X7_requireRange (σ : jv_S) (p1 : Int32) (p2 : Int32) (p3 : Int32) : Except String Unit := if p1 < p2 then (.error "java/lang/IllegalArgumentException") else (if p1 ≤ p3 then (.ok ()) else (.error "java/lang/IllegalArgumentException"))
set_option maxRecDepth 100000 in
set_option maxHeartbeats 4000000 in
theorem ok_X7_requireRange {G : jv_G} {l : Launch} {σ : jv_S} {p1 : Int32} {p2 : Int32} {p3 : Int32} {r : Unit} (h : f_X7_requireRange σ p1 p2 p3 = .ok r) : jv_Cn G l 1 M_X7_requireRange [.int p1, .int p2, .int p3] σ (none) σ := by
  refine jv_of (L0 := [some (.int p1), some (.int p2), some (.int p3)]) (by decide +kernel) (Nat.le_of_ble_eq_true rfl) rfl jv_okV (fun E e1 e2 hE hret => ?_)
  unfold f_X7_requireRange at h
  refine jv_iload_n (x := p1) (pc' := 1) hE dX7_requireRange_0 rfl 0 rfl rfl ?_
  refine jv_iload_n (x := p2) (pc' := 2) hE dX7_requireRange_1 rfl 1 rfl rfl ?_
  refine jv_icmp_lt (x := p1) (y := p2) (tgt := 10) (pc' := 5) hE dX7_requireRange_2 (by decide) rfl (fun c1 => ?_) (fun c1 => ?_)
  · rw [if_pos c1] at h
    cases h
  · rw [if_neg c1] at h
    refine jv_iload_n (x := p1) (pc' := 6) hE dX7_requireRange_5 rfl 0 rfl rfl ?_
    refine jv_iload_n (x := p3) (pc' := 7) hE dX7_requireRange_6 rfl 2 rfl rfl ?_
    refine jv_icmp_le (x := p1) (y := p3) (tgt := 20) (pc' := 10) hE dX7_requireRange_7 (by decide) rfl (fun c2 => ?_) (fun c2 => ?_)
    · rw [if_pos c2] at h
      cases h
      exact hret _ _ dX7_requireRange_20
    · rw [if_neg c2] at h
      cases h
set_option maxRecDepth 100000 in
set_option maxHeartbeats 4000000 in
theorem okt_X7_requireRange {G : jv_G} {l : Launch} (hl0 : l.stackTraces = false) {σ : jv_S} {p1 : Int32} {p2 : Int32} {p3 : Int32} {E0 : String} (h : f_X7_requireRange σ p1 p2 p3 = .error E0) : jv_Ct G l 1 M_X7_requireRange [.int p1, .int p2, .int p3] σ E0 σ := by
  refine jv_oft (L0 := [some (.int p1), some (.int p2), some (.int p3)]) hl0 (by decide +kernel) (Nat.le_of_ble_eq_true rfl) rfl (fun E e1 e2 hE hR hT => ?_)
  subst e1; subst e2
  unfold f_X7_requireRange at h
  refine jv_iload_n (x := p1) (pc' := 1) hE dX7_requireRange_0 rfl 0 rfl rfl ?_
  refine jv_iload_n (x := p2) (pc' := 2) hE dX7_requireRange_1 rfl 1 rfl rfl ?_
  refine jv_icmp_lt (x := p1) (y := p2) (tgt := 10) (pc' := 5) hE dX7_requireRange_2 (by decide) rfl (fun c1 => ?_) (fun c1 => ?_)
  · rw [if_pos c1] at h
    cases h
    exact jv_throw hE hT hR lT_114_225_118 dX7_requireRange_10 dX7_requireRange_13 dX7_requireRange_14 dX7_requireRange_16 dX7_requireRange_19 (Nat.le_of_ble_eq_true rfl)
  · rw [if_neg c1] at h
    refine jv_iload_n (x := p1) (pc' := 6) hE dX7_requireRange_5 rfl 0 rfl rfl ?_
    refine jv_iload_n (x := p3) (pc' := 7) hE dX7_requireRange_6 rfl 2 rfl rfl ?_
    refine jv_icmp_le (x := p1) (y := p3) (tgt := 20) (pc' := 10) hE dX7_requireRange_7 (by decide) rfl (fun c2 => ?_) (fun c2 => ?_)
    · rw [if_pos c2] at h
      cases h
    · rw [if_neg c2] at h
      cases h
      exact jv_throw hE hT hR lT_114_225_118 dX7_requireRange_10 dX7_requireRange_13 dX7_requireRange_14 dX7_requireRange_16 dX7_requireRange_19 (Nat.le_of_ble_eq_true rfl)
noncomputable def f_X7_endDraws (σ : jv_S) : jv_S := (jv_si (jv_si σ 0 7 (0 : Int32)) 0 8 (0 : Int32))
set_option maxRecDepth 100000 in
set_option maxHeartbeats 4000000 in
theorem ok_X7_endDraws {G : jv_G} {l : Launch} {σ : jv_S} {r : jv_S} (h : f_X7_endDraws σ = r) : jv_Cn G l 1 M_X7_endDraws [.ref 0] σ (none) r := by
  refine jv_of (L0 := [some (.ref 0)]) (by decide +kernel) (Nat.le_of_ble_eq_true rfl) rfl jv_okV (fun E e1 e2 hE hret => ?_)
  unfold f_X7_endDraws at h
  refine jv_aload_n (x := 0) (pc' := 1) hE dX7_endDraws_0 rfl 0 rfl rfl ?_
  refine jv_iconst (v := (0 : Int32)) (pc' := 2) hE dX7_endDraws_1 rfl (by decide) ?_
  refine jv_puti (x := (0 : Int32)) (pc' := 5) hE dX7_endDraws_2 rfl lP_X7_145 rfl rfl (by decide) (by decide) ?_
  refine jv_aload_n (x := 0) (pc' := 6) hE dX7_endDraws_5 rfl 0 rfl rfl ?_
  refine jv_iconst (v := (0 : Int32)) (pc' := 7) hE dX7_endDraws_6 rfl (by decide) ?_
  refine jv_puti (x := (0 : Int32)) (pc' := 10) hE dX7_endDraws_7 rfl lP_X7_184 rfl rfl (by decide) (by decide) ?_
  cases h
  exact hret _ _ dX7_endDraws_10
noncomputable def f_X7_begin (σ : jv_S) (p1 : Int32) : Option (Except String Unit × jv_S) := jv_xe (f_X7_requireRange σ p1 (2 : Int32) (10 : Int32)) (fun e2 => some (.error e2, σ)) (fun q1 => jv_bd (f_X3_clear σ p1) (fun q3 => jv_lt (f_X7_endDraws q3) (fun q4 => some (.ok (), q4))))
set_option maxRecDepth 100000 in
set_option maxHeartbeats 4000000 in
theorem ok_X7_begin {G : jv_G} {l : Launch} {σ : jv_S} {p1 : Int32} {r : Unit} {τ : jv_S} (h : f_X7_begin σ p1 = some (.ok r, τ)) : jv_Cn G l 6 M_X7_begin [.ref 0, .int p1] σ (none) τ := by
  refine jv_of (L0 := [some (.ref 0), some (.int p1)]) (by decide +kernel) (Nat.le_of_ble_eq_true rfl) rfl jv_okV (fun E e1 e2 hE hret => ?_)
  unfold f_X7_begin at h
  refine jv_iload_n (x := p1) (pc' := 1) hE dX7_begin_0 rfl 1 rfl rfl ?_
  refine jv_iconst (v := (2 : Int32)) (pc' := 2) hE dX7_begin_1 rfl (by decide) ?_
  refine jv_bipush (v := (10 : Int32)) (pc' := 4) hE dX7_begin_2 rfl (by decide) ?_
  rcases jv_xe_or h with ⟨e2, hq1, h⟩ | ⟨q1, hq1, h⟩
  · cases h
  · refine jv_callS (pc' := 7) (o := none) (σ' := σ) hE dX7_begin_4 rfl lS_X7_60 (ok_X7_requireRange hq1) rfl (by decide) rfl (Nat.le_of_ble_eq_true rfl) ?_
    show jv_V E 7 [some (.ref 0), some (.int p1)] [] σ
    refine jv_aload_n (x := 0) (pc' := 8) hE dX7_begin_7 rfl 0 rfl rfl ?_
    refine jv_get (v := .ref 1) (pc' := 11) hE dX7_begin_8 rfl lF_X7_10 rfl rfl rfl ?_
    refine jv_iload_n (x := p1) (pc' := 12) hE dX7_begin_11 rfl 1 rfl rfl ?_
    obtain ⟨q3, hq3, h⟩ := jv_bd_some h
    refine jv_callV (pc' := 15) (o := none) (σ' := q3) hE dX7_begin_12 rfl lV_X7_64 (ok_X3_clear hq3) rfl rfl rfl (by decide) rfl (Nat.le_of_ble_eq_true rfl) ?_
    show jv_V E 15 [some (.ref 0), some (.int p1)] [] q3
    refine jv_aload_n (x := 0) (pc' := 16) hE dX7_begin_15 rfl 0 rfl rfl ?_
    obtain ⟨q4, hq4, h⟩ := jv_lt_eq h
    refine jv_callV (pc' := 19) (o := none) (σ' := q4) hE dX7_begin_16 rfl lV_X7_68 (ok_X7_endDraws hq4) rfl rfl rfl (by decide) rfl (Nat.le_of_ble_eq_true rfl) ?_
    show jv_V E 19 [some (.ref 0), some (.int p1)] [] q4
    cases h
    exact hret _ _ dX7_begin_19
set_option maxRecDepth 100000 in
set_option maxHeartbeats 4000000 in
theorem okt_X7_begin {G : jv_G} {l : Launch} (hl0 : l.stackTraces = false) {σ : jv_S} {p1 : Int32} {E0 : String} {τ : jv_S} (h : f_X7_begin σ p1 = some (.error E0, τ)) : jv_Ct G l 6 M_X7_begin [.ref 0, .int p1] σ E0 τ := by
  refine jv_oft (L0 := [some (.ref 0), some (.int p1)]) hl0 (by decide +kernel) (Nat.le_of_ble_eq_true rfl) rfl (fun E e1 e2 hE hR hT => ?_)
  subst e1; subst e2
  unfold f_X7_begin at h
  refine jv_iload_n (x := p1) (pc' := 1) hE dX7_begin_0 rfl 1 rfl rfl ?_
  refine jv_iconst (v := (2 : Int32)) (pc' := 2) hE dX7_begin_1 rfl (by decide) ?_
  refine jv_bipush (v := (10 : Int32)) (pc' := 4) hE dX7_begin_2 rfl (by decide) ?_
  rcases jv_xe_or h with ⟨e2, hq1, h⟩ | ⟨q1, hq1, h⟩
  · cases h
    exact jv_callSt hE hT dX7_begin_4 lS_X7_60 (okt_X7_requireRange hl0 hq1) hR rfl (by decide) rfl (Nat.le_of_ble_eq_true rfl)
  · refine jv_callS (pc' := 7) (o := none) (σ' := σ) hE dX7_begin_4 rfl lS_X7_60 (ok_X7_requireRange hq1) rfl (by decide) rfl (Nat.le_of_ble_eq_true rfl) ?_
    show jv_V E 7 [some (.ref 0), some (.int p1)] [] σ
    refine jv_aload_n (x := 0) (pc' := 8) hE dX7_begin_7 rfl 0 rfl rfl ?_
    refine jv_get (v := .ref 1) (pc' := 11) hE dX7_begin_8 rfl lF_X7_10 rfl rfl rfl ?_
    refine jv_iload_n (x := p1) (pc' := 12) hE dX7_begin_11 rfl 1 rfl rfl ?_
    obtain ⟨q3, hq3, h⟩ := jv_bd_some h
    refine jv_callV (pc' := 15) (o := none) (σ' := q3) hE dX7_begin_12 rfl lV_X7_64 (ok_X3_clear hq3) rfl rfl rfl (by decide) rfl (Nat.le_of_ble_eq_true rfl) ?_
    show jv_V E 15 [some (.ref 0), some (.int p1)] [] q3
    refine jv_aload_n (x := 0) (pc' := 16) hE dX7_begin_15 rfl 0 rfl rfl ?_
    obtain ⟨q4, hq4, h⟩ := jv_lt_eq h
    refine jv_callV (pc' := 19) (o := none) (σ' := q4) hE dX7_begin_16 rfl lV_X7_68 (ok_X7_endDraws hq4) rfl rfl rfl (by decide) rfl (Nat.le_of_ble_eq_true rfl) ?_
    show jv_V E 19 [some (.ref 0), some (.int p1)] [] q4
    cases h
noncomputable def f_X7_requireNodes (σ : jv_S) (p1 : Int32) (p2 : Int32) : Except String Unit := if (f_X3_hasNode σ p1) = true then (if (f_X3_hasNode σ p2) = true then (.ok ()) else (.error "java/lang/IllegalArgumentException")) else (.error "java/lang/IllegalArgumentException")
set_option maxRecDepth 100000 in
set_option maxHeartbeats 4000000 in
theorem ok_X7_requireNodes {G : jv_G} {l : Launch} {σ : jv_S} {p1 : Int32} {p2 : Int32} {r : Unit} (h : f_X7_requireNodes σ p1 p2 = .ok r) : jv_Cn G l 2 M_X7_requireNodes [.ref 0, .int p1, .int p2] σ (none) σ := by
  refine jv_of (L0 := [some (.ref 0), some (.int p1), some (.int p2)]) (by decide +kernel) (Nat.le_of_ble_eq_true rfl) rfl jv_okV (fun E e1 e2 hE hret => ?_)
  unfold f_X7_requireNodes at h
  refine jv_aload_n (x := 0) (pc' := 1) hE dX7_requireNodes_0 rfl 0 rfl rfl ?_
  refine jv_get (v := .ref 1) (pc' := 4) hE dX7_requireNodes_1 rfl lF_X7_10 rfl rfl rfl ?_
  refine jv_iload_n (x := p1) (pc' := 5) hE dX7_requireNodes_4 rfl 1 rfl rfl ?_
  refine jv_callV (pc' := 8) (o := some (.int (jv_b (f_X3_hasNode σ p1)))) (σ' := σ) hE dX7_requireNodes_5 rfl lV_X7_213 (ok_X3_hasNode rfl) rfl rfl rfl (by decide) rfl (Nat.le_of_ble_eq_true rfl) ?_
  show jv_V E 8 [some (.ref 0), some (.int p1), some (.int p2)] [.int (jv_b (f_X3_hasNode σ p1))] σ
  refine jv_if_eq (x := (jv_b (f_X3_hasNode σ p1))) (tgt := 22) (pc' := 11) hE dX7_requireNodes_8 (by decide) rfl (fun c1 => ?_) (fun c1 => ?_)
  · have c1 := jv_b0 c1
    rw [if_neg c1] at h
    cases h
  · have c1 := jv_b1 c1
    rw [if_pos c1] at h
    refine jv_aload_n (x := 0) (pc' := 12) hE dX7_requireNodes_11 rfl 0 rfl rfl ?_
    refine jv_get (v := .ref 1) (pc' := 15) hE dX7_requireNodes_12 rfl lF_X7_10 rfl rfl rfl ?_
    refine jv_iload_n (x := p2) (pc' := 16) hE dX7_requireNodes_15 rfl 2 rfl rfl ?_
    refine jv_callV (pc' := 19) (o := some (.int (jv_b (f_X3_hasNode σ p2)))) (σ' := σ) hE dX7_requireNodes_16 rfl lV_X7_213 (ok_X3_hasNode rfl) rfl rfl rfl (by decide) rfl (Nat.le_of_ble_eq_true rfl) ?_
    show jv_V E 19 [some (.ref 0), some (.int p1), some (.int p2)] [.int (jv_b (f_X3_hasNode σ p2))] σ
    refine jv_if_ne (x := (jv_b (f_X3_hasNode σ p2))) (tgt := 32) (pc' := 22) hE dX7_requireNodes_19 (by decide) rfl (fun c2 => ?_) (fun c2 => ?_)
    · have c2 := jv_b1 c2
      rw [if_pos c2] at h
      cases h
      exact hret _ _ dX7_requireNodes_32
    · have c2 := jv_b0 c2
      rw [if_neg c2] at h
      cases h
set_option maxRecDepth 100000 in
set_option maxHeartbeats 4000000 in
theorem okt_X7_requireNodes {G : jv_G} {l : Launch} (hl0 : l.stackTraces = false) {σ : jv_S} {p1 : Int32} {p2 : Int32} {E0 : String} (h : f_X7_requireNodes σ p1 p2 = .error E0) : jv_Ct G l 2 M_X7_requireNodes [.ref 0, .int p1, .int p2] σ E0 σ := by
  refine jv_oft (L0 := [some (.ref 0), some (.int p1), some (.int p2)]) hl0 (by decide +kernel) (Nat.le_of_ble_eq_true rfl) rfl (fun E e1 e2 hE hR hT => ?_)
  subst e1; subst e2
  unfold f_X7_requireNodes at h
  refine jv_aload_n (x := 0) (pc' := 1) hE dX7_requireNodes_0 rfl 0 rfl rfl ?_
  refine jv_get (v := .ref 1) (pc' := 4) hE dX7_requireNodes_1 rfl lF_X7_10 rfl rfl rfl ?_
  refine jv_iload_n (x := p1) (pc' := 5) hE dX7_requireNodes_4 rfl 1 rfl rfl ?_
  refine jv_callV (pc' := 8) (o := some (.int (jv_b (f_X3_hasNode σ p1)))) (σ' := σ) hE dX7_requireNodes_5 rfl lV_X7_213 (ok_X3_hasNode rfl) rfl rfl rfl (by decide) rfl (Nat.le_of_ble_eq_true rfl) ?_
  show jv_V E 8 [some (.ref 0), some (.int p1), some (.int p2)] [.int (jv_b (f_X3_hasNode σ p1))] σ
  refine jv_if_eq (x := (jv_b (f_X3_hasNode σ p1))) (tgt := 22) (pc' := 11) hE dX7_requireNodes_8 (by decide) rfl (fun c1 => ?_) (fun c1 => ?_)
  · have c1 := jv_b0 c1
    rw [if_neg c1] at h
    cases h
    exact jv_throw hE hT hR lT_114_216_118 dX7_requireNodes_22 dX7_requireNodes_25 dX7_requireNodes_26 dX7_requireNodes_28 dX7_requireNodes_31 (Nat.le_of_ble_eq_true rfl)
  · have c1 := jv_b1 c1
    rw [if_pos c1] at h
    refine jv_aload_n (x := 0) (pc' := 12) hE dX7_requireNodes_11 rfl 0 rfl rfl ?_
    refine jv_get (v := .ref 1) (pc' := 15) hE dX7_requireNodes_12 rfl lF_X7_10 rfl rfl rfl ?_
    refine jv_iload_n (x := p2) (pc' := 16) hE dX7_requireNodes_15 rfl 2 rfl rfl ?_
    refine jv_callV (pc' := 19) (o := some (.int (jv_b (f_X3_hasNode σ p2)))) (σ' := σ) hE dX7_requireNodes_16 rfl lV_X7_213 (ok_X3_hasNode rfl) rfl rfl rfl (by decide) rfl (Nat.le_of_ble_eq_true rfl) ?_
    show jv_V E 19 [some (.ref 0), some (.int p1), some (.int p2)] [.int (jv_b (f_X3_hasNode σ p2))] σ
    refine jv_if_ne (x := (jv_b (f_X3_hasNode σ p2))) (tgt := 32) (pc' := 22) hE dX7_requireNodes_19 (by decide) rfl (fun c2 => ?_) (fun c2 => ?_)
    · have c2 := jv_b1 c2
      rw [if_pos c2] at h
      cases h
    · have c2 := jv_b0 c2
      rw [if_neg c2] at h
      cases h
      exact jv_throw hE hT hR lT_114_216_118 dX7_requireNodes_22 dX7_requireNodes_25 dX7_requireNodes_26 dX7_requireNodes_28 dX7_requireNodes_31 (Nat.le_of_ble_eq_true rfl)
noncomputable def f_X7_requireTwoNodes (σ : jv_S) (p1 : Int32) (p2 : Int32) : Except String Unit := jv_xe (f_X7_requireNodes σ p1 p2) (fun e2 => .error e2) (fun q1 => if p1 = p2 then (.error "java/lang/IllegalArgumentException") else (.ok ()))
set_option maxRecDepth 100000 in
set_option maxHeartbeats 4000000 in
theorem ok_X7_requireTwoNodes {G : jv_G} {l : Launch} {σ : jv_S} {p1 : Int32} {p2 : Int32} {r : Unit} (h : f_X7_requireTwoNodes σ p1 p2 = .ok r) : jv_Cn G l 3 M_X7_requireTwoNodes [.ref 0, .int p1, .int p2] σ (none) σ := by
  refine jv_of (L0 := [some (.ref 0), some (.int p1), some (.int p2)]) (by decide +kernel) (Nat.le_of_ble_eq_true rfl) rfl jv_okV (fun E e1 e2 hE hret => ?_)
  unfold f_X7_requireTwoNodes at h
  refine jv_aload_n (x := 0) (pc' := 1) hE dX7_requireTwoNodes_0 rfl 0 rfl rfl ?_
  refine jv_iload_n (x := p1) (pc' := 2) hE dX7_requireTwoNodes_1 rfl 1 rfl rfl ?_
  refine jv_iload_n (x := p2) (pc' := 3) hE dX7_requireTwoNodes_2 rfl 2 rfl rfl ?_
  rcases jv_xe_or h with ⟨e2, hq1, h⟩ | ⟨q1, hq1, h⟩
  · cases h
  · refine jv_callV (pc' := 6) (o := none) (σ' := σ) hE dX7_requireTwoNodes_3 rfl lV_X7_101 (ok_X7_requireNodes hq1) rfl rfl rfl (by decide) rfl (Nat.le_of_ble_eq_true rfl) ?_
    show jv_V E 6 [some (.ref 0), some (.int p1), some (.int p2)] [] σ
    refine jv_iload_n (x := p1) (pc' := 7) hE dX7_requireTwoNodes_6 rfl 1 rfl rfl ?_
    refine jv_iload_n (x := p2) (pc' := 8) hE dX7_requireTwoNodes_7 rfl 2 rfl rfl ?_
    refine jv_icmp_ne (x := p1) (y := p2) (tgt := 21) (pc' := 11) hE dX7_requireTwoNodes_8 (by decide) rfl (fun c3 => ?_) (fun c3 => ?_)
    · rw [if_neg c3] at h
      cases h
      exact hret _ _ dX7_requireTwoNodes_21
    · rw [if_pos c3] at h
      cases h
set_option maxRecDepth 100000 in
set_option maxHeartbeats 4000000 in
theorem okt_X7_requireTwoNodes {G : jv_G} {l : Launch} (hl0 : l.stackTraces = false) {σ : jv_S} {p1 : Int32} {p2 : Int32} {E0 : String} (h : f_X7_requireTwoNodes σ p1 p2 = .error E0) : jv_Ct G l 3 M_X7_requireTwoNodes [.ref 0, .int p1, .int p2] σ E0 σ := by
  refine jv_oft (L0 := [some (.ref 0), some (.int p1), some (.int p2)]) hl0 (by decide +kernel) (Nat.le_of_ble_eq_true rfl) rfl (fun E e1 e2 hE hR hT => ?_)
  subst e1; subst e2
  unfold f_X7_requireTwoNodes at h
  refine jv_aload_n (x := 0) (pc' := 1) hE dX7_requireTwoNodes_0 rfl 0 rfl rfl ?_
  refine jv_iload_n (x := p1) (pc' := 2) hE dX7_requireTwoNodes_1 rfl 1 rfl rfl ?_
  refine jv_iload_n (x := p2) (pc' := 3) hE dX7_requireTwoNodes_2 rfl 2 rfl rfl ?_
  rcases jv_xe_or h with ⟨e2, hq1, h⟩ | ⟨q1, hq1, h⟩
  · cases h
    exact jv_callVt hE hT dX7_requireTwoNodes_3 lV_X7_101 (okt_X7_requireNodes hl0 hq1) hR rfl rfl rfl (by decide) rfl (Nat.le_of_ble_eq_true rfl)
  · refine jv_callV (pc' := 6) (o := none) (σ' := σ) hE dX7_requireTwoNodes_3 rfl lV_X7_101 (ok_X7_requireNodes hq1) rfl rfl rfl (by decide) rfl (Nat.le_of_ble_eq_true rfl) ?_
    show jv_V E 6 [some (.ref 0), some (.int p1), some (.int p2)] [] σ
    refine jv_iload_n (x := p1) (pc' := 7) hE dX7_requireTwoNodes_6 rfl 1 rfl rfl ?_
    refine jv_iload_n (x := p2) (pc' := 8) hE dX7_requireTwoNodes_7 rfl 2 rfl rfl ?_
    refine jv_icmp_ne (x := p1) (y := p2) (tgt := 21) (pc' := 11) hE dX7_requireTwoNodes_8 (by decide) rfl (fun c3 => ?_) (fun c3 => ?_)
    · rw [if_neg c3] at h
      cases h
    · rw [if_pos c3] at h
      cases h
      exact jv_throw hE hT hR lT_114_218_118 dX7_requireTwoNodes_11 dX7_requireTwoNodes_14 dX7_requireTwoNodes_15 dX7_requireTwoNodes_17 dX7_requireTwoNodes_20 (Nat.le_of_ble_eq_true rfl)
noncomputable def f_X7_startPaths (σ : jv_S) (p1 : Int32) (p2 : Int32) : Except String Unit × jv_S := jv_xe (f_X7_requireTwoNodes σ p1 p2) (fun e2 => (.error e2, σ)) (fun q1 => jv_lt (f_X5_restart σ p1 p2) (fun q3 => (.ok (), (jv_si q3 0 7 (1 : Int32)))))
set_option maxRecDepth 100000 in
set_option maxHeartbeats 4000000 in
theorem ok_X7_startPaths {G : jv_G} {l : Launch} {σ : jv_S} {p1 : Int32} {p2 : Int32} {r : Unit} {τ : jv_S} (h : f_X7_startPaths σ p1 p2 = (.ok r, τ)) : jv_Cn G l 4 M_X7_startPaths [.ref 0, .int p1, .int p2] σ (none) τ := by
  refine jv_of (L0 := [some (.ref 0), some (.int p1), some (.int p2)]) (by decide +kernel) (Nat.le_of_ble_eq_true rfl) rfl jv_okV (fun E e1 e2 hE hret => ?_)
  unfold f_X7_startPaths at h
  refine jv_aload_n (x := 0) (pc' := 1) hE dX7_startPaths_0 rfl 0 rfl rfl ?_
  refine jv_iload_n (x := p1) (pc' := 2) hE dX7_startPaths_1 rfl 1 rfl rfl ?_
  refine jv_iload_n (x := p2) (pc' := 3) hE dX7_startPaths_2 rfl 2 rfl rfl ?_
  rcases jv_xe_or h with ⟨e2, hq1, h⟩ | ⟨q1, hq1, h⟩
  · cases h
  · refine jv_callV (pc' := 6) (o := none) (σ' := σ) hE dX7_startPaths_3 rfl lV_X7_71 (ok_X7_requireTwoNodes hq1) rfl rfl rfl (by decide) rfl (Nat.le_of_ble_eq_true rfl) ?_
    show jv_V E 6 [some (.ref 0), some (.int p1), some (.int p2)] [] σ
    refine jv_aload_n (x := 0) (pc' := 7) hE dX7_startPaths_6 rfl 0 rfl rfl ?_
    refine jv_get (v := .ref 10) (pc' := 10) hE dX7_startPaths_7 rfl lF_X7_28 rfl rfl rfl ?_
    refine jv_iload_n (x := p1) (pc' := 11) hE dX7_startPaths_10 rfl 1 rfl rfl ?_
    refine jv_iload_n (x := p2) (pc' := 12) hE dX7_startPaths_11 rfl 2 rfl rfl ?_
    obtain ⟨q3, hq3, h⟩ := jv_lt_eq h
    refine jv_callV (pc' := 15) (o := none) (σ' := q3) hE dX7_startPaths_12 rfl lV_X7_142 (ok_X5_restart hq3) rfl rfl rfl (by decide) rfl (Nat.le_of_ble_eq_true rfl) ?_
    show jv_V E 15 [some (.ref 0), some (.int p1), some (.int p2)] [] q3
    refine jv_aload_n (x := 0) (pc' := 16) hE dX7_startPaths_15 rfl 0 rfl rfl ?_
    refine jv_iconst (v := (1 : Int32)) (pc' := 17) hE dX7_startPaths_16 rfl (by decide) ?_
    refine jv_puti (x := (1 : Int32)) (pc' := 20) hE dX7_startPaths_17 rfl lP_X7_145 rfl rfl (by decide) (by decide) ?_
    cases h
    exact hret _ _ dX7_startPaths_20
set_option maxRecDepth 100000 in
set_option maxHeartbeats 4000000 in
theorem okt_X7_startPaths {G : jv_G} {l : Launch} (hl0 : l.stackTraces = false) {σ : jv_S} {p1 : Int32} {p2 : Int32} {E0 : String} {τ : jv_S} (h : f_X7_startPaths σ p1 p2 = (.error E0, τ)) : jv_Ct G l 4 M_X7_startPaths [.ref 0, .int p1, .int p2] σ E0 τ := by
  refine jv_oft (L0 := [some (.ref 0), some (.int p1), some (.int p2)]) hl0 (by decide +kernel) (Nat.le_of_ble_eq_true rfl) rfl (fun E e1 e2 hE hR hT => ?_)
  subst e1; subst e2
  unfold f_X7_startPaths at h
  refine jv_aload_n (x := 0) (pc' := 1) hE dX7_startPaths_0 rfl 0 rfl rfl ?_
  refine jv_iload_n (x := p1) (pc' := 2) hE dX7_startPaths_1 rfl 1 rfl rfl ?_
  refine jv_iload_n (x := p2) (pc' := 3) hE dX7_startPaths_2 rfl 2 rfl rfl ?_
  rcases jv_xe_or h with ⟨e2, hq1, h⟩ | ⟨q1, hq1, h⟩
  · cases h
    exact jv_callVt hE hT dX7_startPaths_3 lV_X7_71 (okt_X7_requireTwoNodes hl0 hq1) hR rfl rfl rfl (by decide) rfl (Nat.le_of_ble_eq_true rfl)
  · refine jv_callV (pc' := 6) (o := none) (σ' := σ) hE dX7_startPaths_3 rfl lV_X7_71 (ok_X7_requireTwoNodes hq1) rfl rfl rfl (by decide) rfl (Nat.le_of_ble_eq_true rfl) ?_
    show jv_V E 6 [some (.ref 0), some (.int p1), some (.int p2)] [] σ
    refine jv_aload_n (x := 0) (pc' := 7) hE dX7_startPaths_6 rfl 0 rfl rfl ?_
    refine jv_get (v := .ref 10) (pc' := 10) hE dX7_startPaths_7 rfl lF_X7_28 rfl rfl rfl ?_
    refine jv_iload_n (x := p1) (pc' := 11) hE dX7_startPaths_10 rfl 1 rfl rfl ?_
    refine jv_iload_n (x := p2) (pc' := 12) hE dX7_startPaths_11 rfl 2 rfl rfl ?_
    obtain ⟨q3, hq3, h⟩ := jv_lt_eq h
    refine jv_callV (pc' := 15) (o := none) (σ' := q3) hE dX7_startPaths_12 rfl lV_X7_142 (ok_X5_restart hq3) rfl rfl rfl (by decide) rfl (Nat.le_of_ble_eq_true rfl) ?_
    show jv_V E 15 [some (.ref 0), some (.int p1), some (.int p2)] [] q3
    refine jv_aload_n (x := 0) (pc' := 16) hE dX7_startPaths_15 rfl 0 rfl rfl ?_
    refine jv_iconst (v := (1 : Int32)) (pc' := 17) hE dX7_startPaths_16 rfl (by decide) ?_
    refine jv_puti (x := (1 : Int32)) (pc' := 20) hE dX7_startPaths_17 rfl lP_X7_145 rfl rfl (by decide) (by decide) ?_
    cases h
noncomputable def f_X7_startWalks (σ : jv_S) (p1 : Int32) (p2 : Int32) : Except String Unit × jv_S := jv_xe (f_X7_requireNodes σ p1 p2) (fun e2 => (.error e2, σ)) (fun q1 => jv_lt (f_X6_restart σ p1 p2) (fun q3 => (.ok (), (jv_si q3 0 8 (1 : Int32)))))
set_option maxRecDepth 100000 in
set_option maxHeartbeats 4000000 in
theorem ok_X7_startWalks {G : jv_G} {l : Launch} {σ : jv_S} {p1 : Int32} {p2 : Int32} {r : Unit} {τ : jv_S} (h : f_X7_startWalks σ p1 p2 = (.ok r, τ)) : jv_Cn G l 4 M_X7_startWalks [.ref 0, .int p1, .int p2] σ (none) τ := by
  refine jv_of (L0 := [some (.ref 0), some (.int p1), some (.int p2)]) (by decide +kernel) (Nat.le_of_ble_eq_true rfl) rfl jv_okV (fun E e1 e2 hE hret => ?_)
  unfold f_X7_startWalks at h
  refine jv_aload_n (x := 0) (pc' := 1) hE dX7_startWalks_0 rfl 0 rfl rfl ?_
  refine jv_iload_n (x := p1) (pc' := 2) hE dX7_startWalks_1 rfl 1 rfl rfl ?_
  refine jv_iload_n (x := p2) (pc' := 3) hE dX7_startWalks_2 rfl 2 rfl rfl ?_
  rcases jv_xe_or h with ⟨e2, hq1, h⟩ | ⟨q1, hq1, h⟩
  · cases h
  · refine jv_callV (pc' := 6) (o := none) (σ' := σ) hE dX7_startWalks_3 rfl lV_X7_101 (ok_X7_requireNodes hq1) rfl rfl rfl (by decide) rfl (Nat.le_of_ble_eq_true rfl) ?_
    show jv_V E 6 [some (.ref 0), some (.int p1), some (.int p2)] [] σ
    refine jv_aload_n (x := 0) (pc' := 7) hE dX7_startWalks_6 rfl 0 rfl rfl ?_
    refine jv_get (v := .ref 17) (pc' := 10) hE dX7_startWalks_7 rfl lF_X7_42 rfl rfl rfl ?_
    refine jv_iload_n (x := p1) (pc' := 11) hE dX7_startWalks_10 rfl 1 rfl rfl ?_
    refine jv_iload_n (x := p2) (pc' := 12) hE dX7_startWalks_11 rfl 2 rfl rfl ?_
    obtain ⟨q3, hq3, h⟩ := jv_lt_eq h
    refine jv_callV (pc' := 15) (o := none) (σ' := q3) hE dX7_startWalks_12 rfl lV_X7_183 (ok_X6_restart hq3) rfl rfl rfl (by decide) rfl (Nat.le_of_ble_eq_true rfl) ?_
    show jv_V E 15 [some (.ref 0), some (.int p1), some (.int p2)] [] q3
    refine jv_aload_n (x := 0) (pc' := 16) hE dX7_startWalks_15 rfl 0 rfl rfl ?_
    refine jv_iconst (v := (1 : Int32)) (pc' := 17) hE dX7_startWalks_16 rfl (by decide) ?_
    refine jv_puti (x := (1 : Int32)) (pc' := 20) hE dX7_startWalks_17 rfl lP_X7_184 rfl rfl (by decide) (by decide) ?_
    cases h
    exact hret _ _ dX7_startWalks_20
set_option maxRecDepth 100000 in
set_option maxHeartbeats 4000000 in
theorem okt_X7_startWalks {G : jv_G} {l : Launch} (hl0 : l.stackTraces = false) {σ : jv_S} {p1 : Int32} {p2 : Int32} {E0 : String} {τ : jv_S} (h : f_X7_startWalks σ p1 p2 = (.error E0, τ)) : jv_Ct G l 4 M_X7_startWalks [.ref 0, .int p1, .int p2] σ E0 τ := by
  refine jv_oft (L0 := [some (.ref 0), some (.int p1), some (.int p2)]) hl0 (by decide +kernel) (Nat.le_of_ble_eq_true rfl) rfl (fun E e1 e2 hE hR hT => ?_)
  subst e1; subst e2
  unfold f_X7_startWalks at h
  refine jv_aload_n (x := 0) (pc' := 1) hE dX7_startWalks_0 rfl 0 rfl rfl ?_
  refine jv_iload_n (x := p1) (pc' := 2) hE dX7_startWalks_1 rfl 1 rfl rfl ?_
  refine jv_iload_n (x := p2) (pc' := 3) hE dX7_startWalks_2 rfl 2 rfl rfl ?_
  rcases jv_xe_or h with ⟨e2, hq1, h⟩ | ⟨q1, hq1, h⟩
  · cases h
    exact jv_callVt hE hT dX7_startWalks_3 lV_X7_101 (okt_X7_requireNodes hl0 hq1) hR rfl rfl rfl (by decide) rfl (Nat.le_of_ble_eq_true rfl)
  · refine jv_callV (pc' := 6) (o := none) (σ' := σ) hE dX7_startWalks_3 rfl lV_X7_101 (ok_X7_requireNodes hq1) rfl rfl rfl (by decide) rfl (Nat.le_of_ble_eq_true rfl) ?_
    show jv_V E 6 [some (.ref 0), some (.int p1), some (.int p2)] [] σ
    refine jv_aload_n (x := 0) (pc' := 7) hE dX7_startWalks_6 rfl 0 rfl rfl ?_
    refine jv_get (v := .ref 17) (pc' := 10) hE dX7_startWalks_7 rfl lF_X7_42 rfl rfl rfl ?_
    refine jv_iload_n (x := p1) (pc' := 11) hE dX7_startWalks_10 rfl 1 rfl rfl ?_
    refine jv_iload_n (x := p2) (pc' := 12) hE dX7_startWalks_11 rfl 2 rfl rfl ?_
    obtain ⟨q3, hq3, h⟩ := jv_lt_eq h
    refine jv_callV (pc' := 15) (o := none) (σ' := q3) hE dX7_startWalks_12 rfl lV_X7_183 (ok_X6_restart hq3) rfl rfl rfl (by decide) rfl (Nat.le_of_ble_eq_true rfl) ?_
    show jv_V E 15 [some (.ref 0), some (.int p1), some (.int p2)] [] q3
    refine jv_aload_n (x := 0) (pc' := 16) hE dX7_startWalks_15 rfl 0 rfl rfl ?_
    refine jv_iconst (v := (1 : Int32)) (pc' := 17) hE dX7_startWalks_16 rfl (by decide) ?_
    refine jv_puti (x := (1 : Int32)) (pc' := 20) hE dX7_startWalks_17 rfl lP_X7_184 rfl rfl (by decide) (by decide) ?_
    cases h
noncomputable def f_X7_edges (σ : jv_S) : Int32 := (f_X3_edgeTotal σ)
set_option maxRecDepth 100000 in
set_option maxHeartbeats 4000000 in
theorem ok_X7_edges {G : jv_G} {l : Launch} {σ : jv_S} {r : Int32} (h : f_X7_edges σ = r) : jv_Cn G l 2 M_X7_edges [.ref 0] σ (some (.int r)) σ := by
  refine jv_of (L0 := [some (.ref 0)]) (by decide +kernel) (Nat.le_of_ble_eq_true rfl) rfl (jv_okI _) (fun E e1 e2 hE hret => ?_)
  unfold f_X7_edges at h
  refine jv_aload_n (x := 0) (pc' := 1) hE dX7_edges_0 rfl 0 rfl rfl ?_
  refine jv_get (v := .ref 1) (pc' := 4) hE dX7_edges_1 rfl lF_X7_10 rfl rfl rfl ?_
  refine jv_callV (pc' := 7) (o := some (.int (f_X3_edgeTotal σ))) (σ' := σ) hE dX7_edges_4 rfl lV_X7_127 (ok_X3_edgeTotal rfl) rfl rfl rfl (by decide) rfl (Nat.le_of_ble_eq_true rfl) ?_
  show jv_V E 7 [some (.ref 0)] [.int (f_X3_edgeTotal σ)] σ
  cases h
  exact hret _ _ dX7_edges_7
noncomputable def f_X7_addEdge (σ : jv_S) (p1 : Int32) (p2 : Int32) (p3 : Int32) : Option (Except String Int32 × jv_S) := jv_xe (f_X7_requireTwoNodes σ p1 p2) (fun e2 => some (.error e2, σ)) (fun q1 => jv_xe (f_X7_requireRange σ p3 (1 : Int32) (1000 : Int32)) (fun e4 => some (.error e4, σ)) (fun q3 => if (f_X3_hasRoom σ) = true then (jv_lt (f_X7_endDraws σ) (fun q6 => jv_bd (f_X3_append q6 p1 p2 p3) (fun q7 => some (.ok q7.1, q7.2)))) else (some (.error "java/lang/IllegalStateException", σ))))
set_option maxRecDepth 100000 in
set_option maxHeartbeats 4000000 in
theorem ok_X7_addEdge {G : jv_G} {l : Launch} {σ : jv_S} {p1 : Int32} {p2 : Int32} {p3 : Int32} {r : Int32} {τ : jv_S} (h : f_X7_addEdge σ p1 p2 p3 = some (.ok r, τ)) : jv_Cn G l 6 M_X7_addEdge [.ref 0, .int p1, .int p2, .int p3] σ (some (.int r)) τ := by
  refine jv_of (L0 := [some (.ref 0), some (.int p1), some (.int p2), some (.int p3)]) (by decide +kernel) (Nat.le_of_ble_eq_true rfl) rfl (jv_okI _) (fun E e1 e2 hE hret => ?_)
  unfold f_X7_addEdge at h
  refine jv_aload_n (x := 0) (pc' := 1) hE dX7_addEdge_0 rfl 0 rfl rfl ?_
  refine jv_iload_n (x := p1) (pc' := 2) hE dX7_addEdge_1 rfl 1 rfl rfl ?_
  refine jv_iload_n (x := p2) (pc' := 3) hE dX7_addEdge_2 rfl 2 rfl rfl ?_
  rcases jv_xe_or h with ⟨e2, hq1, h⟩ | ⟨q1, hq1, h⟩
  · cases h
  · refine jv_callV (pc' := 6) (o := none) (σ' := σ) hE dX7_addEdge_3 rfl lV_X7_71 (ok_X7_requireTwoNodes hq1) rfl rfl rfl (by decide) rfl (Nat.le_of_ble_eq_true rfl) ?_
    show jv_V E 6 [some (.ref 0), some (.int p1), some (.int p2), some (.int p3)] [] σ
    refine jv_iload_n (x := p3) (pc' := 7) hE dX7_addEdge_6 rfl 3 rfl rfl ?_
    refine jv_iconst (v := (1 : Int32)) (pc' := 8) hE dX7_addEdge_7 rfl (by decide) ?_
    refine jv_sipush (v := (1000 : Int32)) (pc' := 11) hE dX7_addEdge_8 rfl (by decide) ?_
    rcases jv_xe_or h with ⟨e4, hq3, h⟩ | ⟨q3, hq3, h⟩
    · cases h
    · refine jv_callS (pc' := 14) (o := none) (σ' := σ) hE dX7_addEdge_11 rfl lS_X7_60 (ok_X7_requireRange hq3) rfl (by decide) rfl (Nat.le_of_ble_eq_true rfl) ?_
      show jv_V E 14 [some (.ref 0), some (.int p1), some (.int p2), some (.int p3)] [] σ
      refine jv_aload_n (x := 0) (pc' := 15) hE dX7_addEdge_14 rfl 0 rfl rfl ?_
      refine jv_get (v := .ref 1) (pc' := 18) hE dX7_addEdge_15 rfl lF_X7_10 rfl rfl rfl ?_
      refine jv_callV (pc' := 21) (o := some (.int (jv_b (f_X3_hasRoom σ)))) (σ' := σ) hE dX7_addEdge_18 rfl lV_X7_75 (ok_X3_hasRoom rfl) rfl rfl rfl (by decide) rfl (Nat.le_of_ble_eq_true rfl) ?_
      show jv_V E 21 [some (.ref 0), some (.int p1), some (.int p2), some (.int p3)] [.int (jv_b (f_X3_hasRoom σ))] σ
      refine jv_if_ne (x := (jv_b (f_X3_hasRoom σ))) (tgt := 34) (pc' := 24) hE dX7_addEdge_21 (by decide) rfl (fun c5 => ?_) (fun c5 => ?_)
      · have c5 := jv_b1 c5
        rw [if_pos c5] at h
        refine jv_aload_n (x := 0) (pc' := 35) hE dX7_addEdge_34 rfl 0 rfl rfl ?_
        obtain ⟨q6, hq6, h⟩ := jv_lt_eq h
        refine jv_callV (pc' := 38) (o := none) (σ' := q6) hE dX7_addEdge_35 rfl lV_X7_68 (ok_X7_endDraws hq6) rfl rfl rfl (by decide) rfl (Nat.le_of_ble_eq_true rfl) ?_
        show jv_V E 38 [some (.ref 0), some (.int p1), some (.int p2), some (.int p3)] [] q6
        refine jv_aload_n (x := 0) (pc' := 39) hE dX7_addEdge_38 rfl 0 rfl rfl ?_
        refine jv_get (v := .ref 1) (pc' := 42) hE dX7_addEdge_39 rfl lF_X7_10 rfl rfl rfl ?_
        refine jv_iload_n (x := p1) (pc' := 43) hE dX7_addEdge_42 rfl 1 rfl rfl ?_
        refine jv_iload_n (x := p2) (pc' := 44) hE dX7_addEdge_43 rfl 2 rfl rfl ?_
        refine jv_iload_n (x := p3) (pc' := 45) hE dX7_addEdge_44 rfl 3 rfl rfl ?_
        obtain ⟨q7, hq7, h⟩ := jv_bd_some h
        refine jv_callV (pc' := 48) (o := some (.int q7.1)) (σ' := q7.2) hE dX7_addEdge_45 rfl lV_X7_86 (ok_X3_append hq7) rfl rfl rfl (by decide) rfl (Nat.le_of_ble_eq_true rfl) ?_
        show jv_V E 48 [some (.ref 0), some (.int p1), some (.int p2), some (.int p3)] [.int q7.1] q7.2
        cases h
        exact hret _ _ dX7_addEdge_48
      · have c5 := jv_b0 c5
        rw [if_neg c5] at h
        cases h
set_option maxRecDepth 100000 in
set_option maxHeartbeats 4000000 in
theorem okt_X7_addEdge {G : jv_G} {l : Launch} (hl0 : l.stackTraces = false) {σ : jv_S} {p1 : Int32} {p2 : Int32} {p3 : Int32} {E0 : String} {τ : jv_S} (h : f_X7_addEdge σ p1 p2 p3 = some (.error E0, τ)) : jv_Ct G l 6 M_X7_addEdge [.ref 0, .int p1, .int p2, .int p3] σ E0 τ := by
  refine jv_oft (L0 := [some (.ref 0), some (.int p1), some (.int p2), some (.int p3)]) hl0 (by decide +kernel) (Nat.le_of_ble_eq_true rfl) rfl (fun E e1 e2 hE hR hT => ?_)
  subst e1; subst e2
  unfold f_X7_addEdge at h
  refine jv_aload_n (x := 0) (pc' := 1) hE dX7_addEdge_0 rfl 0 rfl rfl ?_
  refine jv_iload_n (x := p1) (pc' := 2) hE dX7_addEdge_1 rfl 1 rfl rfl ?_
  refine jv_iload_n (x := p2) (pc' := 3) hE dX7_addEdge_2 rfl 2 rfl rfl ?_
  rcases jv_xe_or h with ⟨e2, hq1, h⟩ | ⟨q1, hq1, h⟩
  · cases h
    exact jv_callVt hE hT dX7_addEdge_3 lV_X7_71 (okt_X7_requireTwoNodes hl0 hq1) hR rfl rfl rfl (by decide) rfl (Nat.le_of_ble_eq_true rfl)
  · refine jv_callV (pc' := 6) (o := none) (σ' := σ) hE dX7_addEdge_3 rfl lV_X7_71 (ok_X7_requireTwoNodes hq1) rfl rfl rfl (by decide) rfl (Nat.le_of_ble_eq_true rfl) ?_
    show jv_V E 6 [some (.ref 0), some (.int p1), some (.int p2), some (.int p3)] [] σ
    refine jv_iload_n (x := p3) (pc' := 7) hE dX7_addEdge_6 rfl 3 rfl rfl ?_
    refine jv_iconst (v := (1 : Int32)) (pc' := 8) hE dX7_addEdge_7 rfl (by decide) ?_
    refine jv_sipush (v := (1000 : Int32)) (pc' := 11) hE dX7_addEdge_8 rfl (by decide) ?_
    rcases jv_xe_or h with ⟨e4, hq3, h⟩ | ⟨q3, hq3, h⟩
    · cases h
      exact jv_callSt hE hT dX7_addEdge_11 lS_X7_60 (okt_X7_requireRange hl0 hq3) hR rfl (by decide) rfl (Nat.le_of_ble_eq_true rfl)
    · refine jv_callS (pc' := 14) (o := none) (σ' := σ) hE dX7_addEdge_11 rfl lS_X7_60 (ok_X7_requireRange hq3) rfl (by decide) rfl (Nat.le_of_ble_eq_true rfl) ?_
      show jv_V E 14 [some (.ref 0), some (.int p1), some (.int p2), some (.int p3)] [] σ
      refine jv_aload_n (x := 0) (pc' := 15) hE dX7_addEdge_14 rfl 0 rfl rfl ?_
      refine jv_get (v := .ref 1) (pc' := 18) hE dX7_addEdge_15 rfl lF_X7_10 rfl rfl rfl ?_
      refine jv_callV (pc' := 21) (o := some (.int (jv_b (f_X3_hasRoom σ)))) (σ' := σ) hE dX7_addEdge_18 rfl lV_X7_75 (ok_X3_hasRoom rfl) rfl rfl rfl (by decide) rfl (Nat.le_of_ble_eq_true rfl) ?_
      show jv_V E 21 [some (.ref 0), some (.int p1), some (.int p2), some (.int p3)] [.int (jv_b (f_X3_hasRoom σ))] σ
      refine jv_if_ne (x := (jv_b (f_X3_hasRoom σ))) (tgt := 34) (pc' := 24) hE dX7_addEdge_21 (by decide) rfl (fun c5 => ?_) (fun c5 => ?_)
      · have c5 := jv_b1 c5
        rw [if_pos c5] at h
        refine jv_aload_n (x := 0) (pc' := 35) hE dX7_addEdge_34 rfl 0 rfl rfl ?_
        obtain ⟨q6, hq6, h⟩ := jv_lt_eq h
        refine jv_callV (pc' := 38) (o := none) (σ' := q6) hE dX7_addEdge_35 rfl lV_X7_68 (ok_X7_endDraws hq6) rfl rfl rfl (by decide) rfl (Nat.le_of_ble_eq_true rfl) ?_
        show jv_V E 38 [some (.ref 0), some (.int p1), some (.int p2), some (.int p3)] [] q6
        refine jv_aload_n (x := 0) (pc' := 39) hE dX7_addEdge_38 rfl 0 rfl rfl ?_
        refine jv_get (v := .ref 1) (pc' := 42) hE dX7_addEdge_39 rfl lF_X7_10 rfl rfl rfl ?_
        refine jv_iload_n (x := p1) (pc' := 43) hE dX7_addEdge_42 rfl 1 rfl rfl ?_
        refine jv_iload_n (x := p2) (pc' := 44) hE dX7_addEdge_43 rfl 2 rfl rfl ?_
        refine jv_iload_n (x := p3) (pc' := 45) hE dX7_addEdge_44 rfl 3 rfl rfl ?_
        obtain ⟨q7, hq7, h⟩ := jv_bd_some h
        refine jv_callV (pc' := 48) (o := some (.int q7.1)) (σ' := q7.2) hE dX7_addEdge_45 rfl lV_X7_86 (ok_X3_append hq7) rfl rfl rfl (by decide) rfl (Nat.le_of_ble_eq_true rfl) ?_
        show jv_V E 48 [some (.ref 0), some (.int p1), some (.int p2), some (.int p3)] [.int q7.1] q7.2
        cases h
      · have c5 := jv_b0 c5
        rw [if_neg c5] at h
        cases h
        exact jv_throw hE hT hR lT_79_81_83 dX7_addEdge_24 dX7_addEdge_27 dX7_addEdge_28 dX7_addEdge_30 dX7_addEdge_33 (Nat.le_of_ble_eq_true rfl)
noncomputable def f_X7_requireEdge (σ : jv_S) (p1 : Int32) : Except String Unit := if (f_X3_hasEdge σ p1) = true then (.ok ()) else (.error "java/lang/IllegalArgumentException")
set_option maxRecDepth 100000 in
set_option maxHeartbeats 4000000 in
theorem ok_X7_requireEdge {G : jv_G} {l : Launch} {σ : jv_S} {p1 : Int32} {r : Unit} (h : f_X7_requireEdge σ p1 = .ok r) : jv_Cn G l 2 M_X7_requireEdge [.ref 0, .int p1] σ (none) σ := by
  refine jv_of (L0 := [some (.ref 0), some (.int p1)]) (by decide +kernel) (Nat.le_of_ble_eq_true rfl) rfl jv_okV (fun E e1 e2 hE hret => ?_)
  unfold f_X7_requireEdge at h
  refine jv_aload_n (x := 0) (pc' := 1) hE dX7_requireEdge_0 rfl 0 rfl rfl ?_
  refine jv_get (v := .ref 1) (pc' := 4) hE dX7_requireEdge_1 rfl lF_X7_10 rfl rfl rfl ?_
  refine jv_iload_n (x := p1) (pc' := 5) hE dX7_requireEdge_4 rfl 1 rfl rfl ?_
  refine jv_callV (pc' := 8) (o := some (.int (jv_b (f_X3_hasEdge σ p1)))) (σ' := σ) hE dX7_requireEdge_5 rfl lV_X7_220 (ok_X3_hasEdge rfl) rfl rfl rfl (by decide) rfl (Nat.le_of_ble_eq_true rfl) ?_
  show jv_V E 8 [some (.ref 0), some (.int p1)] [.int (jv_b (f_X3_hasEdge σ p1))] σ
  refine jv_if_ne (x := (jv_b (f_X3_hasEdge σ p1))) (tgt := 21) (pc' := 11) hE dX7_requireEdge_8 (by decide) rfl (fun c1 => ?_) (fun c1 => ?_)
  · have c1 := jv_b1 c1
    rw [if_pos c1] at h
    cases h
    exact hret _ _ dX7_requireEdge_21
  · have c1 := jv_b0 c1
    rw [if_neg c1] at h
    cases h
set_option maxRecDepth 100000 in
set_option maxHeartbeats 4000000 in
theorem okt_X7_requireEdge {G : jv_G} {l : Launch} (hl0 : l.stackTraces = false) {σ : jv_S} {p1 : Int32} {E0 : String} (h : f_X7_requireEdge σ p1 = .error E0) : jv_Ct G l 2 M_X7_requireEdge [.ref 0, .int p1] σ E0 σ := by
  refine jv_oft (L0 := [some (.ref 0), some (.int p1)]) hl0 (by decide +kernel) (Nat.le_of_ble_eq_true rfl) rfl (fun E e1 e2 hE hR hT => ?_)
  subst e1; subst e2
  unfold f_X7_requireEdge at h
  refine jv_aload_n (x := 0) (pc' := 1) hE dX7_requireEdge_0 rfl 0 rfl rfl ?_
  refine jv_get (v := .ref 1) (pc' := 4) hE dX7_requireEdge_1 rfl lF_X7_10 rfl rfl rfl ?_
  refine jv_iload_n (x := p1) (pc' := 5) hE dX7_requireEdge_4 rfl 1 rfl rfl ?_
  refine jv_callV (pc' := 8) (o := some (.int (jv_b (f_X3_hasEdge σ p1)))) (σ' := σ) hE dX7_requireEdge_5 rfl lV_X7_220 (ok_X3_hasEdge rfl) rfl rfl rfl (by decide) rfl (Nat.le_of_ble_eq_true rfl) ?_
  show jv_V E 8 [some (.ref 0), some (.int p1)] [.int (jv_b (f_X3_hasEdge σ p1))] σ
  refine jv_if_ne (x := (jv_b (f_X3_hasEdge σ p1))) (tgt := 21) (pc' := 11) hE dX7_requireEdge_8 (by decide) rfl (fun c1 => ?_) (fun c1 => ?_)
  · have c1 := jv_b1 c1
    rw [if_pos c1] at h
    cases h
  · have c1 := jv_b0 c1
    rw [if_neg c1] at h
    cases h
    exact jv_throw hE hT hR lT_114_223_118 dX7_requireEdge_11 dX7_requireEdge_14 dX7_requireEdge_15 dX7_requireEdge_17 dX7_requireEdge_20 (Nat.le_of_ble_eq_true rfl)
noncomputable def f_X7_setLength (σ : jv_S) (p1 : Int32) (p2 : Int32) : Except String Int32 × jv_S := jv_xe (f_X7_requireEdge σ p1) (fun e2 => (.error e2, σ)) (fun q1 => jv_xe (f_X7_requireRange σ p2 (1 : Int32) (1000 : Int32)) (fun e4 => (.error e4, σ)) (fun q3 => jv_lt (f_X7_endDraws σ) (fun q5 => jv_lt (f_X3_changeLength q5 p1 p2) (fun q6 => (.ok q6.1, q6.2)))))
set_option maxRecDepth 100000 in
set_option maxHeartbeats 4000000 in
theorem ok_X7_setLength {G : jv_G} {l : Launch} {σ : jv_S} {p1 : Int32} {p2 : Int32} {r : Int32} {τ : jv_S} (h : f_X7_setLength σ p1 p2 = (.ok r, τ)) : jv_Cn G l 4 M_X7_setLength [.ref 0, .int p1, .int p2] σ (some (.int r)) τ := by
  refine jv_of (L0 := [some (.ref 0), some (.int p1), some (.int p2)]) (by decide +kernel) (Nat.le_of_ble_eq_true rfl) rfl (jv_okI _) (fun E e1 e2 hE hret => ?_)
  unfold f_X7_setLength at h
  refine jv_aload_n (x := 0) (pc' := 1) hE dX7_setLength_0 rfl 0 rfl rfl ?_
  refine jv_iload_n (x := p1) (pc' := 2) hE dX7_setLength_1 rfl 1 rfl rfl ?_
  rcases jv_xe_or h with ⟨e2, hq1, h⟩ | ⟨q1, hq1, h⟩
  · cases h
  · refine jv_callV (pc' := 5) (o := none) (σ' := σ) hE dX7_setLength_2 rfl lV_X7_90 (ok_X7_requireEdge hq1) rfl rfl rfl (by decide) rfl (Nat.le_of_ble_eq_true rfl) ?_
    show jv_V E 5 [some (.ref 0), some (.int p1), some (.int p2)] [] σ
    refine jv_iload_n (x := p2) (pc' := 6) hE dX7_setLength_5 rfl 2 rfl rfl ?_
    refine jv_iconst (v := (1 : Int32)) (pc' := 7) hE dX7_setLength_6 rfl (by decide) ?_
    refine jv_sipush (v := (1000 : Int32)) (pc' := 10) hE dX7_setLength_7 rfl (by decide) ?_
    rcases jv_xe_or h with ⟨e4, hq3, h⟩ | ⟨q3, hq3, h⟩
    · cases h
    · refine jv_callS (pc' := 13) (o := none) (σ' := σ) hE dX7_setLength_10 rfl lS_X7_60 (ok_X7_requireRange hq3) rfl (by decide) rfl (Nat.le_of_ble_eq_true rfl) ?_
      show jv_V E 13 [some (.ref 0), some (.int p1), some (.int p2)] [] σ
      refine jv_aload_n (x := 0) (pc' := 14) hE dX7_setLength_13 rfl 0 rfl rfl ?_
      obtain ⟨q5, hq5, h⟩ := jv_lt_eq h
      refine jv_callV (pc' := 17) (o := none) (σ' := q5) hE dX7_setLength_14 rfl lV_X7_68 (ok_X7_endDraws hq5) rfl rfl rfl (by decide) rfl (Nat.le_of_ble_eq_true rfl) ?_
      show jv_V E 17 [some (.ref 0), some (.int p1), some (.int p2)] [] q5
      refine jv_aload_n (x := 0) (pc' := 18) hE dX7_setLength_17 rfl 0 rfl rfl ?_
      refine jv_get (v := .ref 1) (pc' := 21) hE dX7_setLength_18 rfl lF_X7_10 rfl rfl rfl ?_
      refine jv_iload_n (x := p1) (pc' := 22) hE dX7_setLength_21 rfl 1 rfl rfl ?_
      refine jv_iload_n (x := p2) (pc' := 23) hE dX7_setLength_22 rfl 2 rfl rfl ?_
      obtain ⟨q6, hq6, h⟩ := jv_lt_eq h
      refine jv_callV (pc' := 26) (o := some (.int q6.1)) (σ' := q6.2) hE dX7_setLength_23 rfl lV_X7_93 (ok_X3_changeLength hq6) rfl rfl rfl (by decide) rfl (Nat.le_of_ble_eq_true rfl) ?_
      show jv_V E 26 [some (.ref 0), some (.int p1), some (.int p2)] [.int q6.1] q6.2
      cases h
      exact hret _ _ dX7_setLength_26
set_option maxRecDepth 100000 in
set_option maxHeartbeats 4000000 in
theorem okt_X7_setLength {G : jv_G} {l : Launch} (hl0 : l.stackTraces = false) {σ : jv_S} {p1 : Int32} {p2 : Int32} {E0 : String} {τ : jv_S} (h : f_X7_setLength σ p1 p2 = (.error E0, τ)) : jv_Ct G l 4 M_X7_setLength [.ref 0, .int p1, .int p2] σ E0 τ := by
  refine jv_oft (L0 := [some (.ref 0), some (.int p1), some (.int p2)]) hl0 (by decide +kernel) (Nat.le_of_ble_eq_true rfl) rfl (fun E e1 e2 hE hR hT => ?_)
  subst e1; subst e2
  unfold f_X7_setLength at h
  refine jv_aload_n (x := 0) (pc' := 1) hE dX7_setLength_0 rfl 0 rfl rfl ?_
  refine jv_iload_n (x := p1) (pc' := 2) hE dX7_setLength_1 rfl 1 rfl rfl ?_
  rcases jv_xe_or h with ⟨e2, hq1, h⟩ | ⟨q1, hq1, h⟩
  · cases h
    exact jv_callVt hE hT dX7_setLength_2 lV_X7_90 (okt_X7_requireEdge hl0 hq1) hR rfl rfl rfl (by decide) rfl (Nat.le_of_ble_eq_true rfl)
  · refine jv_callV (pc' := 5) (o := none) (σ' := σ) hE dX7_setLength_2 rfl lV_X7_90 (ok_X7_requireEdge hq1) rfl rfl rfl (by decide) rfl (Nat.le_of_ble_eq_true rfl) ?_
    show jv_V E 5 [some (.ref 0), some (.int p1), some (.int p2)] [] σ
    refine jv_iload_n (x := p2) (pc' := 6) hE dX7_setLength_5 rfl 2 rfl rfl ?_
    refine jv_iconst (v := (1 : Int32)) (pc' := 7) hE dX7_setLength_6 rfl (by decide) ?_
    refine jv_sipush (v := (1000 : Int32)) (pc' := 10) hE dX7_setLength_7 rfl (by decide) ?_
    rcases jv_xe_or h with ⟨e4, hq3, h⟩ | ⟨q3, hq3, h⟩
    · cases h
      exact jv_callSt hE hT dX7_setLength_10 lS_X7_60 (okt_X7_requireRange hl0 hq3) hR rfl (by decide) rfl (Nat.le_of_ble_eq_true rfl)
    · refine jv_callS (pc' := 13) (o := none) (σ' := σ) hE dX7_setLength_10 rfl lS_X7_60 (ok_X7_requireRange hq3) rfl (by decide) rfl (Nat.le_of_ble_eq_true rfl) ?_
      show jv_V E 13 [some (.ref 0), some (.int p1), some (.int p2)] [] σ
      refine jv_aload_n (x := 0) (pc' := 14) hE dX7_setLength_13 rfl 0 rfl rfl ?_
      obtain ⟨q5, hq5, h⟩ := jv_lt_eq h
      refine jv_callV (pc' := 17) (o := none) (σ' := q5) hE dX7_setLength_14 rfl lV_X7_68 (ok_X7_endDraws hq5) rfl rfl rfl (by decide) rfl (Nat.le_of_ble_eq_true rfl) ?_
      show jv_V E 17 [some (.ref 0), some (.int p1), some (.int p2)] [] q5
      refine jv_aload_n (x := 0) (pc' := 18) hE dX7_setLength_17 rfl 0 rfl rfl ?_
      refine jv_get (v := .ref 1) (pc' := 21) hE dX7_setLength_18 rfl lF_X7_10 rfl rfl rfl ?_
      refine jv_iload_n (x := p1) (pc' := 22) hE dX7_setLength_21 rfl 1 rfl rfl ?_
      refine jv_iload_n (x := p2) (pc' := 23) hE dX7_setLength_22 rfl 2 rfl rfl ?_
      obtain ⟨q6, hq6, h⟩ := jv_lt_eq h
      refine jv_callV (pc' := 26) (o := some (.int q6.1)) (σ' := q6.2) hE dX7_setLength_23 rfl lV_X7_93 (ok_X3_changeLength hq6) rfl rfl rfl (by decide) rfl (Nat.le_of_ble_eq_true rfl) ?_
      show jv_V E 26 [some (.ref 0), some (.int p1), some (.int p2)] [.int q6.1] q6.2
      cases h
noncomputable def f_X7_toggleEdge (σ : jv_S) (p1 : Int32) : Option (Except String Bool × jv_S) := jv_xe (f_X7_requireEdge σ p1) (fun e2 => some (.error e2, σ)) (fun q1 => jv_lt (f_X7_endDraws σ) (fun q3 => jv_bd (f_X3_switchEdge q3 p1) (fun q4 => some (.ok q4.1, q4.2))))
set_option maxRecDepth 100000 in
set_option maxHeartbeats 4000000 in
theorem ok_X7_toggleEdge {G : jv_G} {l : Launch} {σ : jv_S} {p1 : Int32} {r : Bool} {τ : jv_S} (h : f_X7_toggleEdge σ p1 = some (.ok r, τ)) : jv_Cn G l 6 M_X7_toggleEdge [.ref 0, .int p1] σ (some (.int (jv_b r))) τ := by
  refine jv_of (L0 := [some (.ref 0), some (.int p1)]) (by decide +kernel) (Nat.le_of_ble_eq_true rfl) rfl (jv_okZ _) (fun E e1 e2 hE hret => ?_)
  unfold f_X7_toggleEdge at h
  refine jv_aload_n (x := 0) (pc' := 1) hE dX7_toggleEdge_0 rfl 0 rfl rfl ?_
  refine jv_iload_n (x := p1) (pc' := 2) hE dX7_toggleEdge_1 rfl 1 rfl rfl ?_
  rcases jv_xe_or h with ⟨e2, hq1, h⟩ | ⟨q1, hq1, h⟩
  · cases h
  · refine jv_callV (pc' := 5) (o := none) (σ' := σ) hE dX7_toggleEdge_2 rfl lV_X7_90 (ok_X7_requireEdge hq1) rfl rfl rfl (by decide) rfl (Nat.le_of_ble_eq_true rfl) ?_
    show jv_V E 5 [some (.ref 0), some (.int p1)] [] σ
    refine jv_aload_n (x := 0) (pc' := 6) hE dX7_toggleEdge_5 rfl 0 rfl rfl ?_
    obtain ⟨q3, hq3, h⟩ := jv_lt_eq h
    refine jv_callV (pc' := 9) (o := none) (σ' := q3) hE dX7_toggleEdge_6 rfl lV_X7_68 (ok_X7_endDraws hq3) rfl rfl rfl (by decide) rfl (Nat.le_of_ble_eq_true rfl) ?_
    show jv_V E 9 [some (.ref 0), some (.int p1)] [] q3
    refine jv_aload_n (x := 0) (pc' := 10) hE dX7_toggleEdge_9 rfl 0 rfl rfl ?_
    refine jv_get (v := .ref 1) (pc' := 13) hE dX7_toggleEdge_10 rfl lF_X7_10 rfl rfl rfl ?_
    refine jv_iload_n (x := p1) (pc' := 14) hE dX7_toggleEdge_13 rfl 1 rfl rfl ?_
    obtain ⟨q4, hq4, h⟩ := jv_bd_some h
    refine jv_callV (pc' := 17) (o := some (.int (jv_b q4.1))) (σ' := q4.2) hE dX7_toggleEdge_14 rfl lV_X7_97 (ok_X3_switchEdge hq4) rfl rfl rfl (by decide) rfl (Nat.le_of_ble_eq_true rfl) ?_
    show jv_V E 17 [some (.ref 0), some (.int p1)] [.int (jv_b q4.1)] q4.2
    cases h
    exact hret _ _ dX7_toggleEdge_17
set_option maxRecDepth 100000 in
set_option maxHeartbeats 4000000 in
theorem okt_X7_toggleEdge {G : jv_G} {l : Launch} (hl0 : l.stackTraces = false) {σ : jv_S} {p1 : Int32} {E0 : String} {τ : jv_S} (h : f_X7_toggleEdge σ p1 = some (.error E0, τ)) : jv_Ct G l 6 M_X7_toggleEdge [.ref 0, .int p1] σ E0 τ := by
  refine jv_oft (L0 := [some (.ref 0), some (.int p1)]) hl0 (by decide +kernel) (Nat.le_of_ble_eq_true rfl) rfl (fun E e1 e2 hE hR hT => ?_)
  subst e1; subst e2
  unfold f_X7_toggleEdge at h
  refine jv_aload_n (x := 0) (pc' := 1) hE dX7_toggleEdge_0 rfl 0 rfl rfl ?_
  refine jv_iload_n (x := p1) (pc' := 2) hE dX7_toggleEdge_1 rfl 1 rfl rfl ?_
  rcases jv_xe_or h with ⟨e2, hq1, h⟩ | ⟨q1, hq1, h⟩
  · cases h
    exact jv_callVt hE hT dX7_toggleEdge_2 lV_X7_90 (okt_X7_requireEdge hl0 hq1) hR rfl rfl rfl (by decide) rfl (Nat.le_of_ble_eq_true rfl)
  · refine jv_callV (pc' := 5) (o := none) (σ' := σ) hE dX7_toggleEdge_2 rfl lV_X7_90 (ok_X7_requireEdge hq1) rfl rfl rfl (by decide) rfl (Nat.le_of_ble_eq_true rfl) ?_
    show jv_V E 5 [some (.ref 0), some (.int p1)] [] σ
    refine jv_aload_n (x := 0) (pc' := 6) hE dX7_toggleEdge_5 rfl 0 rfl rfl ?_
    obtain ⟨q3, hq3, h⟩ := jv_lt_eq h
    refine jv_callV (pc' := 9) (o := none) (σ' := q3) hE dX7_toggleEdge_6 rfl lV_X7_68 (ok_X7_endDraws hq3) rfl rfl rfl (by decide) rfl (Nat.le_of_ble_eq_true rfl) ?_
    show jv_V E 9 [some (.ref 0), some (.int p1)] [] q3
    refine jv_aload_n (x := 0) (pc' := 10) hE dX7_toggleEdge_9 rfl 0 rfl rfl ?_
    refine jv_get (v := .ref 1) (pc' := 13) hE dX7_toggleEdge_10 rfl lF_X7_10 rfl rfl rfl ?_
    refine jv_iload_n (x := p1) (pc' := 14) hE dX7_toggleEdge_13 rfl 1 rfl rfl ?_
    obtain ⟨q4, hq4, h⟩ := jv_bd_some h
    refine jv_callV (pc' := 17) (o := some (.int (jv_b q4.1))) (σ' := q4.2) hE dX7_toggleEdge_14 rfl lV_X7_97 (ok_X3_switchEdge hq4) rfl rfl rfl (by decide) rfl (Nat.le_of_ble_eq_true rfl) ?_
    show jv_V E 17 [some (.ref 0), some (.int p1)] [.int (jv_b q4.1)] q4.2
    cases h
noncomputable def f_X7_toggleNode (σ : jv_S) (p1 : Int32) : Option (Except String Bool × jv_S) := jv_xe (f_X7_requireNodes σ p1 p1) (fun e2 => some (.error e2, σ)) (fun q1 => jv_lt (f_X7_endDraws σ) (fun q3 => jv_bd (f_X3_switchNode q3 p1) (fun q4 => some (.ok q4.1, q4.2))))
set_option maxRecDepth 100000 in
set_option maxHeartbeats 4000000 in
theorem ok_X7_toggleNode {G : jv_G} {l : Launch} {σ : jv_S} {p1 : Int32} {r : Bool} {τ : jv_S} (h : f_X7_toggleNode σ p1 = some (.ok r, τ)) : jv_Cn G l 6 M_X7_toggleNode [.ref 0, .int p1] σ (some (.int (jv_b r))) τ := by
  refine jv_of (L0 := [some (.ref 0), some (.int p1)]) (by decide +kernel) (Nat.le_of_ble_eq_true rfl) rfl (jv_okZ _) (fun E e1 e2 hE hret => ?_)
  unfold f_X7_toggleNode at h
  refine jv_aload_n (x := 0) (pc' := 1) hE dX7_toggleNode_0 rfl 0 rfl rfl ?_
  refine jv_iload_n (x := p1) (pc' := 2) hE dX7_toggleNode_1 rfl 1 rfl rfl ?_
  refine jv_iload_n (x := p1) (pc' := 3) hE dX7_toggleNode_2 rfl 1 rfl rfl ?_
  rcases jv_xe_or h with ⟨e2, hq1, h⟩ | ⟨q1, hq1, h⟩
  · cases h
  · refine jv_callV (pc' := 6) (o := none) (σ' := σ) hE dX7_toggleNode_3 rfl lV_X7_101 (ok_X7_requireNodes hq1) rfl rfl rfl (by decide) rfl (Nat.le_of_ble_eq_true rfl) ?_
    show jv_V E 6 [some (.ref 0), some (.int p1)] [] σ
    refine jv_aload_n (x := 0) (pc' := 7) hE dX7_toggleNode_6 rfl 0 rfl rfl ?_
    obtain ⟨q3, hq3, h⟩ := jv_lt_eq h
    refine jv_callV (pc' := 10) (o := none) (σ' := q3) hE dX7_toggleNode_7 rfl lV_X7_68 (ok_X7_endDraws hq3) rfl rfl rfl (by decide) rfl (Nat.le_of_ble_eq_true rfl) ?_
    show jv_V E 10 [some (.ref 0), some (.int p1)] [] q3
    refine jv_aload_n (x := 0) (pc' := 11) hE dX7_toggleNode_10 rfl 0 rfl rfl ?_
    refine jv_get (v := .ref 1) (pc' := 14) hE dX7_toggleNode_11 rfl lF_X7_10 rfl rfl rfl ?_
    refine jv_iload_n (x := p1) (pc' := 15) hE dX7_toggleNode_14 rfl 1 rfl rfl ?_
    obtain ⟨q4, hq4, h⟩ := jv_bd_some h
    refine jv_callV (pc' := 18) (o := some (.int (jv_b q4.1))) (σ' := q4.2) hE dX7_toggleNode_15 rfl lV_X7_104 (ok_X3_switchNode hq4) rfl rfl rfl (by decide) rfl (Nat.le_of_ble_eq_true rfl) ?_
    show jv_V E 18 [some (.ref 0), some (.int p1)] [.int (jv_b q4.1)] q4.2
    cases h
    exact hret _ _ dX7_toggleNode_18
set_option maxRecDepth 100000 in
set_option maxHeartbeats 4000000 in
theorem okt_X7_toggleNode {G : jv_G} {l : Launch} (hl0 : l.stackTraces = false) {σ : jv_S} {p1 : Int32} {E0 : String} {τ : jv_S} (h : f_X7_toggleNode σ p1 = some (.error E0, τ)) : jv_Ct G l 6 M_X7_toggleNode [.ref 0, .int p1] σ E0 τ := by
  refine jv_oft (L0 := [some (.ref 0), some (.int p1)]) hl0 (by decide +kernel) (Nat.le_of_ble_eq_true rfl) rfl (fun E e1 e2 hE hR hT => ?_)
  subst e1; subst e2
  unfold f_X7_toggleNode at h
  refine jv_aload_n (x := 0) (pc' := 1) hE dX7_toggleNode_0 rfl 0 rfl rfl ?_
  refine jv_iload_n (x := p1) (pc' := 2) hE dX7_toggleNode_1 rfl 1 rfl rfl ?_
  refine jv_iload_n (x := p1) (pc' := 3) hE dX7_toggleNode_2 rfl 1 rfl rfl ?_
  rcases jv_xe_or h with ⟨e2, hq1, h⟩ | ⟨q1, hq1, h⟩
  · cases h
    exact jv_callVt hE hT dX7_toggleNode_3 lV_X7_101 (okt_X7_requireNodes hl0 hq1) hR rfl rfl rfl (by decide) rfl (Nat.le_of_ble_eq_true rfl)
  · refine jv_callV (pc' := 6) (o := none) (σ' := σ) hE dX7_toggleNode_3 rfl lV_X7_101 (ok_X7_requireNodes hq1) rfl rfl rfl (by decide) rfl (Nat.le_of_ble_eq_true rfl) ?_
    show jv_V E 6 [some (.ref 0), some (.int p1)] [] σ
    refine jv_aload_n (x := 0) (pc' := 7) hE dX7_toggleNode_6 rfl 0 rfl rfl ?_
    obtain ⟨q3, hq3, h⟩ := jv_lt_eq h
    refine jv_callV (pc' := 10) (o := none) (σ' := q3) hE dX7_toggleNode_7 rfl lV_X7_68 (ok_X7_endDraws hq3) rfl rfl rfl (by decide) rfl (Nat.le_of_ble_eq_true rfl) ?_
    show jv_V E 10 [some (.ref 0), some (.int p1)] [] q3
    refine jv_aload_n (x := 0) (pc' := 11) hE dX7_toggleNode_10 rfl 0 rfl rfl ?_
    refine jv_get (v := .ref 1) (pc' := 14) hE dX7_toggleNode_11 rfl lF_X7_10 rfl rfl rfl ?_
    refine jv_iload_n (x := p1) (pc' := 15) hE dX7_toggleNode_14 rfl 1 rfl rfl ?_
    obtain ⟨q4, hq4, h⟩ := jv_bd_some h
    refine jv_callV (pc' := 18) (o := some (.int (jv_b q4.1))) (σ' := q4.2) hE dX7_toggleNode_15 rfl lV_X7_104 (ok_X3_switchNode hq4) rfl rfl rfl (by decide) rfl (Nat.le_of_ble_eq_true rfl) ?_
    show jv_V E 18 [some (.ref 0), some (.int p1)] [.int (jv_b q4.1)] q4.2
    cases h
noncomputable def f_X7_toggleTurn (σ : jv_S) (p1 : Int32) (p2 : Int32) : Except String Bool × jv_S := jv_xe (f_X7_requireEdge σ p1) (fun e2 => (.error e2, σ)) (fun q1 => jv_xe (f_X7_requireEdge σ p2) (fun e4 => (.error e4, σ)) (fun q3 => if (f_X3_headOf σ p1) = (f_X3_tailOf σ p2) then (jv_lt (f_X3_switchTurn σ p1 p2) (fun q6 => (.ok q6.1, q6.2))) else ((.error "java/lang/IllegalArgumentException", σ))))
set_option maxRecDepth 100000 in
set_option maxHeartbeats 4000000 in
theorem ok_X7_toggleTurn {G : jv_G} {l : Launch} {σ : jv_S} {p1 : Int32} {p2 : Int32} {r : Bool} {τ : jv_S} (h : f_X7_toggleTurn σ p1 p2 = (.ok r, τ)) : jv_Cn G l 4 M_X7_toggleTurn [.ref 0, .int p1, .int p2] σ (some (.int (jv_b r))) τ := by
  refine jv_of (L0 := [some (.ref 0), some (.int p1), some (.int p2)]) (by decide +kernel) (Nat.le_of_ble_eq_true rfl) rfl (jv_okZ _) (fun E e1 e2 hE hret => ?_)
  unfold f_X7_toggleTurn at h
  refine jv_aload_n (x := 0) (pc' := 1) hE dX7_toggleTurn_0 rfl 0 rfl rfl ?_
  refine jv_iload_n (x := p1) (pc' := 2) hE dX7_toggleTurn_1 rfl 1 rfl rfl ?_
  rcases jv_xe_or h with ⟨e2, hq1, h⟩ | ⟨q1, hq1, h⟩
  · cases h
  · refine jv_callV (pc' := 5) (o := none) (σ' := σ) hE dX7_toggleTurn_2 rfl lV_X7_90 (ok_X7_requireEdge hq1) rfl rfl rfl (by decide) rfl (Nat.le_of_ble_eq_true rfl) ?_
    show jv_V E 5 [some (.ref 0), some (.int p1), some (.int p2)] [] σ
    refine jv_aload_n (x := 0) (pc' := 6) hE dX7_toggleTurn_5 rfl 0 rfl rfl ?_
    refine jv_iload_n (x := p2) (pc' := 7) hE dX7_toggleTurn_6 rfl 2 rfl rfl ?_
    rcases jv_xe_or h with ⟨e4, hq3, h⟩ | ⟨q3, hq3, h⟩
    · cases h
    · refine jv_callV (pc' := 10) (o := none) (σ' := σ) hE dX7_toggleTurn_7 rfl lV_X7_90 (ok_X7_requireEdge hq3) rfl rfl rfl (by decide) rfl (Nat.le_of_ble_eq_true rfl) ?_
      show jv_V E 10 [some (.ref 0), some (.int p1), some (.int p2)] [] σ
      refine jv_aload_n (x := 0) (pc' := 11) hE dX7_toggleTurn_10 rfl 0 rfl rfl ?_
      refine jv_get (v := .ref 1) (pc' := 14) hE dX7_toggleTurn_11 rfl lF_X7_10 rfl rfl rfl ?_
      refine jv_iload_n (x := p1) (pc' := 15) hE dX7_toggleTurn_14 rfl 1 rfl rfl ?_
      refine jv_callV (pc' := 18) (o := some (.int (f_X3_headOf σ p1))) (σ' := σ) hE dX7_toggleTurn_15 rfl lV_X7_107 (ok_X3_headOf rfl) rfl rfl rfl (by decide) rfl (Nat.le_of_ble_eq_true rfl) ?_
      show jv_V E 18 [some (.ref 0), some (.int p1), some (.int p2)] [.int (f_X3_headOf σ p1)] σ
      refine jv_aload_n (x := 0) (pc' := 19) hE dX7_toggleTurn_18 rfl 0 rfl rfl ?_
      refine jv_get (v := .ref 1) (pc' := 22) hE dX7_toggleTurn_19 rfl lF_X7_10 rfl rfl rfl ?_
      refine jv_iload_n (x := p2) (pc' := 23) hE dX7_toggleTurn_22 rfl 2 rfl rfl ?_
      refine jv_callV (pc' := 26) (o := some (.int (f_X3_tailOf σ p2))) (σ' := σ) hE dX7_toggleTurn_23 rfl lV_X7_111 (ok_X3_tailOf rfl) rfl rfl rfl (by decide) rfl (Nat.le_of_ble_eq_true rfl) ?_
      show jv_V E 26 [some (.ref 0), some (.int p1), some (.int p2)] [.int (f_X3_tailOf σ p2), .int (f_X3_headOf σ p1)] σ
      refine jv_icmp_eq (x := (f_X3_headOf σ p1)) (y := (f_X3_tailOf σ p2)) (tgt := 39) (pc' := 29) hE dX7_toggleTurn_26 (by decide) rfl (fun c5 => ?_) (fun c5 => ?_)
      · rw [if_pos c5] at h
        refine jv_aload_n (x := 0) (pc' := 40) hE dX7_toggleTurn_39 rfl 0 rfl rfl ?_
        refine jv_get (v := .ref 1) (pc' := 43) hE dX7_toggleTurn_40 rfl lF_X7_10 rfl rfl rfl ?_
        refine jv_iload_n (x := p1) (pc' := 44) hE dX7_toggleTurn_43 rfl 1 rfl rfl ?_
        refine jv_iload_n (x := p2) (pc' := 45) hE dX7_toggleTurn_44 rfl 2 rfl rfl ?_
        obtain ⟨q6, hq6, h⟩ := jv_lt_eq h
        refine jv_callV (pc' := 48) (o := some (.int (jv_b q6.1))) (σ' := q6.2) hE dX7_toggleTurn_45 rfl lV_X7_119 (ok_X3_switchTurn hq6) rfl rfl rfl (by decide) rfl (Nat.le_of_ble_eq_true rfl) ?_
        show jv_V E 48 [some (.ref 0), some (.int p1), some (.int p2)] [.int (jv_b q6.1)] q6.2
        cases h
        exact hret _ _ dX7_toggleTurn_48
      · rw [if_neg c5] at h
        cases h
set_option maxRecDepth 100000 in
set_option maxHeartbeats 4000000 in
theorem okt_X7_toggleTurn {G : jv_G} {l : Launch} (hl0 : l.stackTraces = false) {σ : jv_S} {p1 : Int32} {p2 : Int32} {E0 : String} {τ : jv_S} (h : f_X7_toggleTurn σ p1 p2 = (.error E0, τ)) : jv_Ct G l 4 M_X7_toggleTurn [.ref 0, .int p1, .int p2] σ E0 τ := by
  refine jv_oft (L0 := [some (.ref 0), some (.int p1), some (.int p2)]) hl0 (by decide +kernel) (Nat.le_of_ble_eq_true rfl) rfl (fun E e1 e2 hE hR hT => ?_)
  subst e1; subst e2
  unfold f_X7_toggleTurn at h
  refine jv_aload_n (x := 0) (pc' := 1) hE dX7_toggleTurn_0 rfl 0 rfl rfl ?_
  refine jv_iload_n (x := p1) (pc' := 2) hE dX7_toggleTurn_1 rfl 1 rfl rfl ?_
  rcases jv_xe_or h with ⟨e2, hq1, h⟩ | ⟨q1, hq1, h⟩
  · cases h
    exact jv_callVt hE hT dX7_toggleTurn_2 lV_X7_90 (okt_X7_requireEdge hl0 hq1) hR rfl rfl rfl (by decide) rfl (Nat.le_of_ble_eq_true rfl)
  · refine jv_callV (pc' := 5) (o := none) (σ' := σ) hE dX7_toggleTurn_2 rfl lV_X7_90 (ok_X7_requireEdge hq1) rfl rfl rfl (by decide) rfl (Nat.le_of_ble_eq_true rfl) ?_
    show jv_V E 5 [some (.ref 0), some (.int p1), some (.int p2)] [] σ
    refine jv_aload_n (x := 0) (pc' := 6) hE dX7_toggleTurn_5 rfl 0 rfl rfl ?_
    refine jv_iload_n (x := p2) (pc' := 7) hE dX7_toggleTurn_6 rfl 2 rfl rfl ?_
    rcases jv_xe_or h with ⟨e4, hq3, h⟩ | ⟨q3, hq3, h⟩
    · cases h
      exact jv_callVt hE hT dX7_toggleTurn_7 lV_X7_90 (okt_X7_requireEdge hl0 hq3) hR rfl rfl rfl (by decide) rfl (Nat.le_of_ble_eq_true rfl)
    · refine jv_callV (pc' := 10) (o := none) (σ' := σ) hE dX7_toggleTurn_7 rfl lV_X7_90 (ok_X7_requireEdge hq3) rfl rfl rfl (by decide) rfl (Nat.le_of_ble_eq_true rfl) ?_
      show jv_V E 10 [some (.ref 0), some (.int p1), some (.int p2)] [] σ
      refine jv_aload_n (x := 0) (pc' := 11) hE dX7_toggleTurn_10 rfl 0 rfl rfl ?_
      refine jv_get (v := .ref 1) (pc' := 14) hE dX7_toggleTurn_11 rfl lF_X7_10 rfl rfl rfl ?_
      refine jv_iload_n (x := p1) (pc' := 15) hE dX7_toggleTurn_14 rfl 1 rfl rfl ?_
      refine jv_callV (pc' := 18) (o := some (.int (f_X3_headOf σ p1))) (σ' := σ) hE dX7_toggleTurn_15 rfl lV_X7_107 (ok_X3_headOf rfl) rfl rfl rfl (by decide) rfl (Nat.le_of_ble_eq_true rfl) ?_
      show jv_V E 18 [some (.ref 0), some (.int p1), some (.int p2)] [.int (f_X3_headOf σ p1)] σ
      refine jv_aload_n (x := 0) (pc' := 19) hE dX7_toggleTurn_18 rfl 0 rfl rfl ?_
      refine jv_get (v := .ref 1) (pc' := 22) hE dX7_toggleTurn_19 rfl lF_X7_10 rfl rfl rfl ?_
      refine jv_iload_n (x := p2) (pc' := 23) hE dX7_toggleTurn_22 rfl 2 rfl rfl ?_
      refine jv_callV (pc' := 26) (o := some (.int (f_X3_tailOf σ p2))) (σ' := σ) hE dX7_toggleTurn_23 rfl lV_X7_111 (ok_X3_tailOf rfl) rfl rfl rfl (by decide) rfl (Nat.le_of_ble_eq_true rfl) ?_
      show jv_V E 26 [some (.ref 0), some (.int p1), some (.int p2)] [.int (f_X3_tailOf σ p2), .int (f_X3_headOf σ p1)] σ
      refine jv_icmp_eq (x := (f_X3_headOf σ p1)) (y := (f_X3_tailOf σ p2)) (tgt := 39) (pc' := 29) hE dX7_toggleTurn_26 (by decide) rfl (fun c5 => ?_) (fun c5 => ?_)
      · rw [if_pos c5] at h
        refine jv_aload_n (x := 0) (pc' := 40) hE dX7_toggleTurn_39 rfl 0 rfl rfl ?_
        refine jv_get (v := .ref 1) (pc' := 43) hE dX7_toggleTurn_40 rfl lF_X7_10 rfl rfl rfl ?_
        refine jv_iload_n (x := p1) (pc' := 44) hE dX7_toggleTurn_43 rfl 1 rfl rfl ?_
        refine jv_iload_n (x := p2) (pc' := 45) hE dX7_toggleTurn_44 rfl 2 rfl rfl ?_
        obtain ⟨q6, hq6, h⟩ := jv_lt_eq h
        refine jv_callV (pc' := 48) (o := some (.int (jv_b q6.1))) (σ' := q6.2) hE dX7_toggleTurn_45 rfl lV_X7_119 (ok_X3_switchTurn hq6) rfl rfl rfl (by decide) rfl (Nat.le_of_ble_eq_true rfl) ?_
        show jv_V E 48 [some (.ref 0), some (.int p1), some (.int p2)] [.int (jv_b q6.1)] q6.2
        cases h
      · rw [if_neg c5] at h
        cases h
        exact jv_throw hE hT hR lT_114_116_118 dX7_toggleTurn_29 dX7_toggleTurn_32 dX7_toggleTurn_33 dX7_toggleTurn_35 dX7_toggleTurn_38 (Nat.le_of_ble_eq_true rfl)
noncomputable def f_X7_requireStarted (σ : jv_S) (p1 : Int32) : Except String Unit := if p1 = 0 then (.error "java/lang/IllegalStateException") else (.ok ())
set_option maxRecDepth 100000 in
set_option maxHeartbeats 4000000 in
theorem ok_X7_requireStarted {G : jv_G} {l : Launch} {σ : jv_S} {p1 : Int32} {r : Unit} (h : f_X7_requireStarted σ p1 = .ok r) : jv_Cn G l 1 M_X7_requireStarted [.int p1] σ (none) σ := by
  refine jv_of (L0 := [some (.int p1)]) (by decide +kernel) (Nat.le_of_ble_eq_true rfl) rfl jv_okV (fun E e1 e2 hE hret => ?_)
  unfold f_X7_requireStarted at h
  refine jv_iload_n (x := p1) (pc' := 1) hE dX7_requireStarted_0 rfl 0 rfl rfl ?_
  refine jv_if_ne (x := p1) (tgt := 14) (pc' := 4) hE dX7_requireStarted_1 (by decide) rfl (fun c1 => ?_) (fun c1 => ?_)
  · rw [if_neg c1] at h
    cases h
    exact hret _ _ dX7_requireStarted_14
  · rw [if_pos c1] at h
    cases h
set_option maxRecDepth 100000 in
set_option maxHeartbeats 4000000 in
theorem okt_X7_requireStarted {G : jv_G} {l : Launch} (hl0 : l.stackTraces = false) {σ : jv_S} {p1 : Int32} {E0 : String} (h : f_X7_requireStarted σ p1 = .error E0) : jv_Ct G l 1 M_X7_requireStarted [.int p1] σ E0 σ := by
  refine jv_oft (L0 := [some (.int p1)]) hl0 (by decide +kernel) (Nat.le_of_ble_eq_true rfl) rfl (fun E e1 e2 hE hR hT => ?_)
  subst e1; subst e2
  unfold f_X7_requireStarted at h
  refine jv_iload_n (x := p1) (pc' := 1) hE dX7_requireStarted_0 rfl 0 rfl rfl ?_
  refine jv_if_ne (x := p1) (tgt := 14) (pc' := 4) hE dX7_requireStarted_1 (by decide) rfl (fun c1 => ?_) (fun c1 => ?_)
  · rw [if_neg c1] at h
    cases h
  · rw [if_pos c1] at h
    cases h
    exact jv_throw hE hT hR lT_79_227_83 dX7_requireStarted_4 dX7_requireStarted_7 dX7_requireStarted_8 dX7_requireStarted_10 dX7_requireStarted_13 (Nat.le_of_ble_eq_true rfl)
noncomputable def f_X7_nextPath (σ : jv_S) : Option (Except String Int32 × jv_S) := jv_xe (f_X7_requireStarted σ (σ.1 0 7)) (fun e2 => some (.error e2, σ)) (fun q1 => jv_bd (f_X5_advance σ) (fun q3 => if q3.1 = true then (some (.ok (f_X5_currentLength q3.2), q3.2)) else (some (.error "java/util/NoSuchElementException", q3.2))))
set_option maxRecDepth 100000 in
set_option maxHeartbeats 4000000 in
theorem ok_X7_nextPath {G : jv_G} {l : Launch} {σ : jv_S} {r : Int32} {τ : jv_S} (h : f_X7_nextPath σ = some (.ok r, τ)) : jv_Cn G l 19 M_X7_nextPath [.ref 0] σ (some (.int r)) τ := by
  refine jv_of (L0 := [some (.ref 0)]) (by decide +kernel) (Nat.le_of_ble_eq_true rfl) rfl (jv_okI _) (fun E e1 e2 hE hret => ?_)
  unfold f_X7_nextPath at h
  refine jv_aload_n (x := 0) (pc' := 1) hE dX7_nextPath_0 rfl 0 rfl rfl ?_
  refine jv_get (v := .int (σ.1 0 7)) (pc' := 4) hE dX7_nextPath_1 rfl lF_X7_145 rfl rfl rfl ?_
  rcases jv_xe_or h with ⟨e2, hq1, h⟩ | ⟨q1, hq1, h⟩
  · cases h
  · refine jv_callS (pc' := 7) (o := none) (σ' := σ) hE dX7_nextPath_4 rfl lS_X7_149 (ok_X7_requireStarted hq1) rfl (by decide) rfl (Nat.le_of_ble_eq_true rfl) ?_
    show jv_V E 7 [some (.ref 0)] [] σ
    refine jv_aload_n (x := 0) (pc' := 8) hE dX7_nextPath_7 rfl 0 rfl rfl ?_
    refine jv_get (v := .ref 10) (pc' := 11) hE dX7_nextPath_8 rfl lF_X7_28 rfl rfl rfl ?_
    obtain ⟨q3, hq3, h⟩ := jv_bd_some h
    refine jv_callV (pc' := 14) (o := some (.int (jv_b q3.1))) (σ' := q3.2) hE dX7_nextPath_11 rfl lV_X7_153 (ok_X5_advance hq3) rfl rfl rfl (by decide) rfl (Nat.le_of_ble_eq_true rfl) ?_
    show jv_V E 14 [some (.ref 0)] [.int (jv_b q3.1)] q3.2
    refine jv_if_ne (x := (jv_b q3.1)) (tgt := 27) (pc' := 17) hE dX7_nextPath_14 (by decide) rfl (fun c4 => ?_) (fun c4 => ?_)
    · have c4 := jv_b1 c4
      rw [if_pos c4] at h
      refine jv_aload_n (x := 0) (pc' := 28) hE dX7_nextPath_27 rfl 0 rfl rfl ?_
      refine jv_get (v := .ref 10) (pc' := 31) hE dX7_nextPath_28 rfl lF_X7_28 rfl rfl rfl ?_
      refine jv_callV (pc' := 34) (o := some (.int (f_X5_currentLength q3.2))) (σ' := q3.2) hE dX7_nextPath_31 rfl lV_X7_161 (ok_X5_currentLength rfl) rfl rfl rfl (by decide) rfl (Nat.le_of_ble_eq_true rfl) ?_
      show jv_V E 34 [some (.ref 0)] [.int (f_X5_currentLength q3.2)] q3.2
      cases h
      exact hret _ _ dX7_nextPath_34
    · have c4 := jv_b0 c4
      rw [if_neg c4] at h
      cases h
set_option maxRecDepth 100000 in
set_option maxHeartbeats 4000000 in
theorem okt_X7_nextPath {G : jv_G} {l : Launch} (hl0 : l.stackTraces = false) {σ : jv_S} {E0 : String} {τ : jv_S} (h : f_X7_nextPath σ = some (.error E0, τ)) : jv_Ct G l 19 M_X7_nextPath [.ref 0] σ E0 τ := by
  refine jv_oft (L0 := [some (.ref 0)]) hl0 (by decide +kernel) (Nat.le_of_ble_eq_true rfl) rfl (fun E e1 e2 hE hR hT => ?_)
  subst e1; subst e2
  unfold f_X7_nextPath at h
  refine jv_aload_n (x := 0) (pc' := 1) hE dX7_nextPath_0 rfl 0 rfl rfl ?_
  refine jv_get (v := .int (σ.1 0 7)) (pc' := 4) hE dX7_nextPath_1 rfl lF_X7_145 rfl rfl rfl ?_
  rcases jv_xe_or h with ⟨e2, hq1, h⟩ | ⟨q1, hq1, h⟩
  · cases h
    exact jv_callSt hE hT dX7_nextPath_4 lS_X7_149 (okt_X7_requireStarted hl0 hq1) hR rfl (by decide) rfl (Nat.le_of_ble_eq_true rfl)
  · refine jv_callS (pc' := 7) (o := none) (σ' := σ) hE dX7_nextPath_4 rfl lS_X7_149 (ok_X7_requireStarted hq1) rfl (by decide) rfl (Nat.le_of_ble_eq_true rfl) ?_
    show jv_V E 7 [some (.ref 0)] [] σ
    refine jv_aload_n (x := 0) (pc' := 8) hE dX7_nextPath_7 rfl 0 rfl rfl ?_
    refine jv_get (v := .ref 10) (pc' := 11) hE dX7_nextPath_8 rfl lF_X7_28 rfl rfl rfl ?_
    obtain ⟨q3, hq3, h⟩ := jv_bd_some h
    refine jv_callV (pc' := 14) (o := some (.int (jv_b q3.1))) (σ' := q3.2) hE dX7_nextPath_11 rfl lV_X7_153 (ok_X5_advance hq3) rfl rfl rfl (by decide) rfl (Nat.le_of_ble_eq_true rfl) ?_
    show jv_V E 14 [some (.ref 0)] [.int (jv_b q3.1)] q3.2
    refine jv_if_ne (x := (jv_b q3.1)) (tgt := 27) (pc' := 17) hE dX7_nextPath_14 (by decide) rfl (fun c4 => ?_) (fun c4 => ?_)
    · have c4 := jv_b1 c4
      rw [if_pos c4] at h
      refine jv_aload_n (x := 0) (pc' := 28) hE dX7_nextPath_27 rfl 0 rfl rfl ?_
      refine jv_get (v := .ref 10) (pc' := 31) hE dX7_nextPath_28 rfl lF_X7_28 rfl rfl rfl ?_
      refine jv_callV (pc' := 34) (o := some (.int (f_X5_currentLength q3.2))) (σ' := q3.2) hE dX7_nextPath_31 rfl lV_X7_161 (ok_X5_currentLength rfl) rfl rfl rfl (by decide) rfl (Nat.le_of_ble_eq_true rfl) ?_
      show jv_V E 34 [some (.ref 0)] [.int (f_X5_currentLength q3.2)] q3.2
      cases h
    · have c4 := jv_b0 c4
      rw [if_neg c4] at h
      cases h
      exact jv_throwN hE hT hR lT_156_158_160 dX7_nextPath_17 dX7_nextPath_20 dX7_nextPath_21 dX7_nextPath_23 dX7_nextPath_26 (Nat.le_of_ble_eq_true rfl)
noncomputable def f_X7_pathsDrawn (σ : jv_S) : Except String Int32 := jv_xe (f_X7_requireStarted σ (σ.1 0 7)) (fun e2 => .error e2) (fun q1 => .ok (f_X5_drawnTotal σ))
set_option maxRecDepth 100000 in
set_option maxHeartbeats 4000000 in
theorem ok_X7_pathsDrawn {G : jv_G} {l : Launch} {σ : jv_S} {r : Int32} (h : f_X7_pathsDrawn σ = .ok r) : jv_Cn G l 2 M_X7_pathsDrawn [.ref 0] σ (some (.int r)) σ := by
  refine jv_of (L0 := [some (.ref 0)]) (by decide +kernel) (Nat.le_of_ble_eq_true rfl) rfl (jv_okI _) (fun E e1 e2 hE hret => ?_)
  unfold f_X7_pathsDrawn at h
  refine jv_aload_n (x := 0) (pc' := 1) hE dX7_pathsDrawn_0 rfl 0 rfl rfl ?_
  refine jv_get (v := .int (σ.1 0 7)) (pc' := 4) hE dX7_pathsDrawn_1 rfl lF_X7_145 rfl rfl rfl ?_
  rcases jv_xe_or h with ⟨e2, hq1, h⟩ | ⟨q1, hq1, h⟩
  · cases h
  · refine jv_callS (pc' := 7) (o := none) (σ' := σ) hE dX7_pathsDrawn_4 rfl lS_X7_149 (ok_X7_requireStarted hq1) rfl (by decide) rfl (Nat.le_of_ble_eq_true rfl) ?_
    show jv_V E 7 [some (.ref 0)] [] σ
    refine jv_aload_n (x := 0) (pc' := 8) hE dX7_pathsDrawn_7 rfl 0 rfl rfl ?_
    refine jv_get (v := .ref 10) (pc' := 11) hE dX7_pathsDrawn_8 rfl lF_X7_28 rfl rfl rfl ?_
    refine jv_callV (pc' := 14) (o := some (.int (f_X5_drawnTotal σ))) (σ' := σ) hE dX7_pathsDrawn_11 rfl lV_X7_164 (ok_X5_drawnTotal rfl) rfl rfl rfl (by decide) rfl (Nat.le_of_ble_eq_true rfl) ?_
    show jv_V E 14 [some (.ref 0)] [.int (f_X5_drawnTotal σ)] σ
    cases h
    exact hret _ _ dX7_pathsDrawn_14
set_option maxRecDepth 100000 in
set_option maxHeartbeats 4000000 in
theorem okt_X7_pathsDrawn {G : jv_G} {l : Launch} (hl0 : l.stackTraces = false) {σ : jv_S} {E0 : String} (h : f_X7_pathsDrawn σ = .error E0) : jv_Ct G l 2 M_X7_pathsDrawn [.ref 0] σ E0 σ := by
  refine jv_oft (L0 := [some (.ref 0)]) hl0 (by decide +kernel) (Nat.le_of_ble_eq_true rfl) rfl (fun E e1 e2 hE hR hT => ?_)
  subst e1; subst e2
  unfold f_X7_pathsDrawn at h
  refine jv_aload_n (x := 0) (pc' := 1) hE dX7_pathsDrawn_0 rfl 0 rfl rfl ?_
  refine jv_get (v := .int (σ.1 0 7)) (pc' := 4) hE dX7_pathsDrawn_1 rfl lF_X7_145 rfl rfl rfl ?_
  rcases jv_xe_or h with ⟨e2, hq1, h⟩ | ⟨q1, hq1, h⟩
  · cases h
    exact jv_callSt hE hT dX7_pathsDrawn_4 lS_X7_149 (okt_X7_requireStarted hl0 hq1) hR rfl (by decide) rfl (Nat.le_of_ble_eq_true rfl)
  · refine jv_callS (pc' := 7) (o := none) (σ' := σ) hE dX7_pathsDrawn_4 rfl lS_X7_149 (ok_X7_requireStarted hq1) rfl (by decide) rfl (Nat.le_of_ble_eq_true rfl) ?_
    show jv_V E 7 [some (.ref 0)] [] σ
    refine jv_aload_n (x := 0) (pc' := 8) hE dX7_pathsDrawn_7 rfl 0 rfl rfl ?_
    refine jv_get (v := .ref 10) (pc' := 11) hE dX7_pathsDrawn_8 rfl lF_X7_28 rfl rfl rfl ?_
    refine jv_callV (pc' := 14) (o := some (.int (f_X5_drawnTotal σ))) (σ' := σ) hE dX7_pathsDrawn_11 rfl lV_X7_164 (ok_X5_drawnTotal rfl) rfl rfl rfl (by decide) rfl (Nat.le_of_ble_eq_true rfl) ?_
    show jv_V E 14 [some (.ref 0)] [.int (f_X5_drawnTotal σ)] σ
    cases h
noncomputable def f_X7_requireDrawn (σ : jv_S) (p1 : Int32) : Except String Unit := if p1 = 0 then (.error "java/util/NoSuchElementException") else (.ok ())
set_option maxRecDepth 100000 in
set_option maxHeartbeats 4000000 in
theorem ok_X7_requireDrawn {G : jv_G} {l : Launch} {σ : jv_S} {p1 : Int32} {r : Unit} (h : f_X7_requireDrawn σ p1 = .ok r) : jv_Cn G l 1 M_X7_requireDrawn [.int p1] σ (none) σ := by
  refine jv_of (L0 := [some (.int p1)]) (by decide +kernel) (Nat.le_of_ble_eq_true rfl) rfl jv_okV (fun E e1 e2 hE hret => ?_)
  unfold f_X7_requireDrawn at h
  refine jv_iload_n (x := p1) (pc' := 1) hE dX7_requireDrawn_0 rfl 0 rfl rfl ?_
  refine jv_if_ne (x := p1) (tgt := 14) (pc' := 4) hE dX7_requireDrawn_1 (by decide) rfl (fun c1 => ?_) (fun c1 => ?_)
  · rw [if_neg c1] at h
    cases h
    exact hret _ _ dX7_requireDrawn_14
  · rw [if_pos c1] at h
    cases h
set_option maxRecDepth 100000 in
set_option maxHeartbeats 4000000 in
theorem okt_X7_requireDrawn {G : jv_G} {l : Launch} (hl0 : l.stackTraces = false) {σ : jv_S} {p1 : Int32} {E0 : String} (h : f_X7_requireDrawn σ p1 = .error E0) : jv_Ct G l 1 M_X7_requireDrawn [.int p1] σ E0 σ := by
  refine jv_oft (L0 := [some (.int p1)]) hl0 (by decide +kernel) (Nat.le_of_ble_eq_true rfl) rfl (fun E e1 e2 hE hR hT => ?_)
  subst e1; subst e2
  unfold f_X7_requireDrawn at h
  refine jv_iload_n (x := p1) (pc' := 1) hE dX7_requireDrawn_0 rfl 0 rfl rfl ?_
  refine jv_if_ne (x := p1) (tgt := 14) (pc' := 4) hE dX7_requireDrawn_1 (by decide) rfl (fun c1 => ?_) (fun c1 => ?_)
  · rw [if_neg c1] at h
    cases h
  · rw [if_pos c1] at h
    cases h
    exact jv_throwN hE hT hR lT_156_229_160 dX7_requireDrawn_4 dX7_requireDrawn_7 dX7_requireDrawn_8 dX7_requireDrawn_10 dX7_requireDrawn_13 (Nat.le_of_ble_eq_true rfl)
noncomputable def f_X7_pathEdges (σ : jv_S) : Option (Except String Int32) := jv_xe (f_X7_requireStarted σ (σ.1 0 7)) (fun e2 => some (.error e2)) (fun q1 => jv_xe (f_X7_requireDrawn σ (f_X5_drawnTotal σ)) (fun e4 => some (.error e4)) (fun q3 => jv_bd (f_X5_currentSize σ) (fun q5 => some (.ok q5))))
set_option maxRecDepth 100000 in
set_option maxHeartbeats 4000000 in
theorem ok_X7_pathEdges {G : jv_G} {l : Launch} {σ : jv_S} {r : Int32} (h : f_X7_pathEdges σ = some (.ok r)) : jv_Cn G l 4 M_X7_pathEdges [.ref 0] σ (some (.int r)) σ := by
  refine jv_of (L0 := [some (.ref 0)]) (by decide +kernel) (Nat.le_of_ble_eq_true rfl) rfl (jv_okI _) (fun E e1 e2 hE hret => ?_)
  unfold f_X7_pathEdges at h
  refine jv_aload_n (x := 0) (pc' := 1) hE dX7_pathEdges_0 rfl 0 rfl rfl ?_
  refine jv_get (v := .int (σ.1 0 7)) (pc' := 4) hE dX7_pathEdges_1 rfl lF_X7_145 rfl rfl rfl ?_
  rcases jv_xe_or h with ⟨e2, hq1, h⟩ | ⟨q1, hq1, h⟩
  · cases h
  · refine jv_callS (pc' := 7) (o := none) (σ' := σ) hE dX7_pathEdges_4 rfl lS_X7_149 (ok_X7_requireStarted hq1) rfl (by decide) rfl (Nat.le_of_ble_eq_true rfl) ?_
    show jv_V E 7 [some (.ref 0)] [] σ
    refine jv_aload_n (x := 0) (pc' := 8) hE dX7_pathEdges_7 rfl 0 rfl rfl ?_
    refine jv_get (v := .ref 10) (pc' := 11) hE dX7_pathEdges_8 rfl lF_X7_28 rfl rfl rfl ?_
    refine jv_callV (pc' := 14) (o := some (.int (f_X5_drawnTotal σ))) (σ' := σ) hE dX7_pathEdges_11 rfl lV_X7_164 (ok_X5_drawnTotal rfl) rfl rfl rfl (by decide) rfl (Nat.le_of_ble_eq_true rfl) ?_
    show jv_V E 14 [some (.ref 0)] [.int (f_X5_drawnTotal σ)] σ
    rcases jv_xe_or h with ⟨e4, hq3, h⟩ | ⟨q3, hq3, h⟩
    · cases h
    · refine jv_callS (pc' := 17) (o := none) (σ' := σ) hE dX7_pathEdges_14 rfl lS_X7_167 (ok_X7_requireDrawn hq3) rfl (by decide) rfl (Nat.le_of_ble_eq_true rfl) ?_
      show jv_V E 17 [some (.ref 0)] [] σ
      refine jv_aload_n (x := 0) (pc' := 18) hE dX7_pathEdges_17 rfl 0 rfl rfl ?_
      refine jv_get (v := .ref 10) (pc' := 21) hE dX7_pathEdges_18 rfl lF_X7_28 rfl rfl rfl ?_
      obtain ⟨q5, hq5, h⟩ := jv_bd_some h
      refine jv_callV (pc' := 24) (o := some (.int q5)) (σ' := σ) hE dX7_pathEdges_21 rfl lV_X7_170 (ok_X5_currentSize hq5) rfl rfl rfl (by decide) rfl (Nat.le_of_ble_eq_true rfl) ?_
      show jv_V E 24 [some (.ref 0)] [.int q5] σ
      cases h
      exact hret _ _ dX7_pathEdges_24
set_option maxRecDepth 100000 in
set_option maxHeartbeats 4000000 in
theorem okt_X7_pathEdges {G : jv_G} {l : Launch} (hl0 : l.stackTraces = false) {σ : jv_S} {E0 : String} (h : f_X7_pathEdges σ = some (.error E0)) : jv_Ct G l 4 M_X7_pathEdges [.ref 0] σ E0 σ := by
  refine jv_oft (L0 := [some (.ref 0)]) hl0 (by decide +kernel) (Nat.le_of_ble_eq_true rfl) rfl (fun E e1 e2 hE hR hT => ?_)
  subst e1; subst e2
  unfold f_X7_pathEdges at h
  refine jv_aload_n (x := 0) (pc' := 1) hE dX7_pathEdges_0 rfl 0 rfl rfl ?_
  refine jv_get (v := .int (σ.1 0 7)) (pc' := 4) hE dX7_pathEdges_1 rfl lF_X7_145 rfl rfl rfl ?_
  rcases jv_xe_or h with ⟨e2, hq1, h⟩ | ⟨q1, hq1, h⟩
  · cases h
    exact jv_callSt hE hT dX7_pathEdges_4 lS_X7_149 (okt_X7_requireStarted hl0 hq1) hR rfl (by decide) rfl (Nat.le_of_ble_eq_true rfl)
  · refine jv_callS (pc' := 7) (o := none) (σ' := σ) hE dX7_pathEdges_4 rfl lS_X7_149 (ok_X7_requireStarted hq1) rfl (by decide) rfl (Nat.le_of_ble_eq_true rfl) ?_
    show jv_V E 7 [some (.ref 0)] [] σ
    refine jv_aload_n (x := 0) (pc' := 8) hE dX7_pathEdges_7 rfl 0 rfl rfl ?_
    refine jv_get (v := .ref 10) (pc' := 11) hE dX7_pathEdges_8 rfl lF_X7_28 rfl rfl rfl ?_
    refine jv_callV (pc' := 14) (o := some (.int (f_X5_drawnTotal σ))) (σ' := σ) hE dX7_pathEdges_11 rfl lV_X7_164 (ok_X5_drawnTotal rfl) rfl rfl rfl (by decide) rfl (Nat.le_of_ble_eq_true rfl) ?_
    show jv_V E 14 [some (.ref 0)] [.int (f_X5_drawnTotal σ)] σ
    rcases jv_xe_or h with ⟨e4, hq3, h⟩ | ⟨q3, hq3, h⟩
    · cases h
      exact jv_callSt hE hT dX7_pathEdges_14 lS_X7_167 (okt_X7_requireDrawn hl0 hq3) hR rfl (by decide) rfl (Nat.le_of_ble_eq_true rfl)
    · refine jv_callS (pc' := 17) (o := none) (σ' := σ) hE dX7_pathEdges_14 rfl lS_X7_167 (ok_X7_requireDrawn hq3) rfl (by decide) rfl (Nat.le_of_ble_eq_true rfl) ?_
      show jv_V E 17 [some (.ref 0)] [] σ
      refine jv_aload_n (x := 0) (pc' := 18) hE dX7_pathEdges_17 rfl 0 rfl rfl ?_
      refine jv_get (v := .ref 10) (pc' := 21) hE dX7_pathEdges_18 rfl lF_X7_28 rfl rfl rfl ?_
      obtain ⟨q5, hq5, h⟩ := jv_bd_some h
      refine jv_callV (pc' := 24) (o := some (.int q5)) (σ' := σ) hE dX7_pathEdges_21 rfl lV_X7_170 (ok_X5_currentSize hq5) rfl rfl rfl (by decide) rfl (Nat.le_of_ble_eq_true rfl) ?_
      show jv_V E 24 [some (.ref 0)] [.int q5] σ
      cases h
noncomputable def f_X7_requireListed (σ : jv_S) (p1 : Int32) : Except String Int32 := if p1 = (-1 : Int32) then (.error "java/util/NoSuchElementException") else (.ok p1)
set_option maxRecDepth 100000 in
set_option maxHeartbeats 4000000 in
theorem ok_X7_requireListed {G : jv_G} {l : Launch} {σ : jv_S} {p1 : Int32} {r : Int32} (h : f_X7_requireListed σ p1 = .ok r) : jv_Cn G l 1 M_X7_requireListed [.int p1] σ (some (.int r)) σ := by
  refine jv_of (L0 := [some (.int p1)]) (by decide +kernel) (Nat.le_of_ble_eq_true rfl) rfl (jv_okI _) (fun E e1 e2 hE hret => ?_)
  unfold f_X7_requireListed at h
  refine jv_iload_n (x := p1) (pc' := 1) hE dX7_requireListed_0 rfl 0 rfl rfl ?_
  refine jv_iconst (v := (-1 : Int32)) (pc' := 2) hE dX7_requireListed_1 rfl (by decide) ?_
  refine jv_icmp_ne (x := p1) (y := (-1 : Int32)) (tgt := 15) (pc' := 5) hE dX7_requireListed_2 (by decide) rfl (fun c1 => ?_) (fun c1 => ?_)
  · rw [if_neg c1] at h
    refine jv_iload_n (x := p1) (pc' := 16) hE dX7_requireListed_15 rfl 0 rfl rfl ?_
    cases h
    exact hret _ _ dX7_requireListed_16
  · rw [if_pos c1] at h
    cases h
set_option maxRecDepth 100000 in
set_option maxHeartbeats 4000000 in
theorem okt_X7_requireListed {G : jv_G} {l : Launch} (hl0 : l.stackTraces = false) {σ : jv_S} {p1 : Int32} {E0 : String} (h : f_X7_requireListed σ p1 = .error E0) : jv_Ct G l 1 M_X7_requireListed [.int p1] σ E0 σ := by
  refine jv_oft (L0 := [some (.int p1)]) hl0 (by decide +kernel) (Nat.le_of_ble_eq_true rfl) rfl (fun E e1 e2 hE hR hT => ?_)
  subst e1; subst e2
  unfold f_X7_requireListed at h
  refine jv_iload_n (x := p1) (pc' := 1) hE dX7_requireListed_0 rfl 0 rfl rfl ?_
  refine jv_iconst (v := (-1 : Int32)) (pc' := 2) hE dX7_requireListed_1 rfl (by decide) ?_
  refine jv_icmp_ne (x := p1) (y := (-1 : Int32)) (tgt := 15) (pc' := 5) hE dX7_requireListed_2 (by decide) rfl (fun c1 => ?_) (fun c1 => ?_)
  · rw [if_neg c1] at h
    refine jv_iload_n (x := p1) (pc' := 16) hE dX7_requireListed_15 rfl 0 rfl rfl ?_
    cases h
  · rw [if_pos c1] at h
    cases h
    exact jv_throwN hE hT hR lT_156_231_160 dX7_requireListed_5 dX7_requireListed_8 dX7_requireListed_9 dX7_requireListed_11 dX7_requireListed_14 (Nat.le_of_ble_eq_true rfl)
noncomputable def f_X7_pathEdge (σ : jv_S) (p1 : Int32) : Except String Int32 := jv_xe (f_X7_requireStarted σ (σ.1 0 7)) (fun e2 => .error e2) (fun q1 => jv_xe (f_X7_requireDrawn σ (f_X5_drawnTotal σ)) (fun e4 => .error e4) (fun q3 => jv_xe (f_X7_requireListed σ (f_X5_currentEdge σ p1)) (fun e6 => .error e6) (fun q5 => .ok q5)))
set_option maxRecDepth 100000 in
set_option maxHeartbeats 4000000 in
theorem ok_X7_pathEdge {G : jv_G} {l : Launch} {σ : jv_S} {p1 : Int32} {r : Int32} (h : f_X7_pathEdge σ p1 = .ok r) : jv_Cn G l 3 M_X7_pathEdge [.ref 0, .int p1] σ (some (.int r)) σ := by
  refine jv_of (L0 := [some (.ref 0), some (.int p1)]) (by decide +kernel) (Nat.le_of_ble_eq_true rfl) rfl (jv_okI _) (fun E e1 e2 hE hret => ?_)
  unfold f_X7_pathEdge at h
  refine jv_aload_n (x := 0) (pc' := 1) hE dX7_pathEdge_0 rfl 0 rfl rfl ?_
  refine jv_get (v := .int (σ.1 0 7)) (pc' := 4) hE dX7_pathEdge_1 rfl lF_X7_145 rfl rfl rfl ?_
  rcases jv_xe_or h with ⟨e2, hq1, h⟩ | ⟨q1, hq1, h⟩
  · cases h
  · refine jv_callS (pc' := 7) (o := none) (σ' := σ) hE dX7_pathEdge_4 rfl lS_X7_149 (ok_X7_requireStarted hq1) rfl (by decide) rfl (Nat.le_of_ble_eq_true rfl) ?_
    show jv_V E 7 [some (.ref 0), some (.int p1)] [] σ
    refine jv_aload_n (x := 0) (pc' := 8) hE dX7_pathEdge_7 rfl 0 rfl rfl ?_
    refine jv_get (v := .ref 10) (pc' := 11) hE dX7_pathEdge_8 rfl lF_X7_28 rfl rfl rfl ?_
    refine jv_callV (pc' := 14) (o := some (.int (f_X5_drawnTotal σ))) (σ' := σ) hE dX7_pathEdge_11 rfl lV_X7_164 (ok_X5_drawnTotal rfl) rfl rfl rfl (by decide) rfl (Nat.le_of_ble_eq_true rfl) ?_
    show jv_V E 14 [some (.ref 0), some (.int p1)] [.int (f_X5_drawnTotal σ)] σ
    rcases jv_xe_or h with ⟨e4, hq3, h⟩ | ⟨q3, hq3, h⟩
    · cases h
    · refine jv_callS (pc' := 17) (o := none) (σ' := σ) hE dX7_pathEdge_14 rfl lS_X7_167 (ok_X7_requireDrawn hq3) rfl (by decide) rfl (Nat.le_of_ble_eq_true rfl) ?_
      show jv_V E 17 [some (.ref 0), some (.int p1)] [] σ
      refine jv_aload_n (x := 0) (pc' := 18) hE dX7_pathEdge_17 rfl 0 rfl rfl ?_
      refine jv_get (v := .ref 10) (pc' := 21) hE dX7_pathEdge_18 rfl lF_X7_28 rfl rfl rfl ?_
      refine jv_iload_n (x := p1) (pc' := 22) hE dX7_pathEdge_21 rfl 1 rfl rfl ?_
      refine jv_callV (pc' := 25) (o := some (.int (f_X5_currentEdge σ p1))) (σ' := σ) hE dX7_pathEdge_22 rfl lV_X7_173 (ok_X5_currentEdge rfl) rfl rfl rfl (by decide) rfl (Nat.le_of_ble_eq_true rfl) ?_
      show jv_V E 25 [some (.ref 0), some (.int p1)] [.int (f_X5_currentEdge σ p1)] σ
      rcases jv_xe_or h with ⟨e6, hq5, h⟩ | ⟨q5, hq5, h⟩
      · cases h
      · refine jv_callS (pc' := 28) (o := some (.int q5)) (σ' := σ) hE dX7_pathEdge_25 rfl lS_X7_176 (ok_X7_requireListed hq5) rfl (by decide) rfl (Nat.le_of_ble_eq_true rfl) ?_
        show jv_V E 28 [some (.ref 0), some (.int p1)] [.int q5] σ
        cases h
        exact hret _ _ dX7_pathEdge_28
set_option maxRecDepth 100000 in
set_option maxHeartbeats 4000000 in
theorem okt_X7_pathEdge {G : jv_G} {l : Launch} (hl0 : l.stackTraces = false) {σ : jv_S} {p1 : Int32} {E0 : String} (h : f_X7_pathEdge σ p1 = .error E0) : jv_Ct G l 3 M_X7_pathEdge [.ref 0, .int p1] σ E0 σ := by
  refine jv_oft (L0 := [some (.ref 0), some (.int p1)]) hl0 (by decide +kernel) (Nat.le_of_ble_eq_true rfl) rfl (fun E e1 e2 hE hR hT => ?_)
  subst e1; subst e2
  unfold f_X7_pathEdge at h
  refine jv_aload_n (x := 0) (pc' := 1) hE dX7_pathEdge_0 rfl 0 rfl rfl ?_
  refine jv_get (v := .int (σ.1 0 7)) (pc' := 4) hE dX7_pathEdge_1 rfl lF_X7_145 rfl rfl rfl ?_
  rcases jv_xe_or h with ⟨e2, hq1, h⟩ | ⟨q1, hq1, h⟩
  · cases h
    exact jv_callSt hE hT dX7_pathEdge_4 lS_X7_149 (okt_X7_requireStarted hl0 hq1) hR rfl (by decide) rfl (Nat.le_of_ble_eq_true rfl)
  · refine jv_callS (pc' := 7) (o := none) (σ' := σ) hE dX7_pathEdge_4 rfl lS_X7_149 (ok_X7_requireStarted hq1) rfl (by decide) rfl (Nat.le_of_ble_eq_true rfl) ?_
    show jv_V E 7 [some (.ref 0), some (.int p1)] [] σ
    refine jv_aload_n (x := 0) (pc' := 8) hE dX7_pathEdge_7 rfl 0 rfl rfl ?_
    refine jv_get (v := .ref 10) (pc' := 11) hE dX7_pathEdge_8 rfl lF_X7_28 rfl rfl rfl ?_
    refine jv_callV (pc' := 14) (o := some (.int (f_X5_drawnTotal σ))) (σ' := σ) hE dX7_pathEdge_11 rfl lV_X7_164 (ok_X5_drawnTotal rfl) rfl rfl rfl (by decide) rfl (Nat.le_of_ble_eq_true rfl) ?_
    show jv_V E 14 [some (.ref 0), some (.int p1)] [.int (f_X5_drawnTotal σ)] σ
    rcases jv_xe_or h with ⟨e4, hq3, h⟩ | ⟨q3, hq3, h⟩
    · cases h
      exact jv_callSt hE hT dX7_pathEdge_14 lS_X7_167 (okt_X7_requireDrawn hl0 hq3) hR rfl (by decide) rfl (Nat.le_of_ble_eq_true rfl)
    · refine jv_callS (pc' := 17) (o := none) (σ' := σ) hE dX7_pathEdge_14 rfl lS_X7_167 (ok_X7_requireDrawn hq3) rfl (by decide) rfl (Nat.le_of_ble_eq_true rfl) ?_
      show jv_V E 17 [some (.ref 0), some (.int p1)] [] σ
      refine jv_aload_n (x := 0) (pc' := 18) hE dX7_pathEdge_17 rfl 0 rfl rfl ?_
      refine jv_get (v := .ref 10) (pc' := 21) hE dX7_pathEdge_18 rfl lF_X7_28 rfl rfl rfl ?_
      refine jv_iload_n (x := p1) (pc' := 22) hE dX7_pathEdge_21 rfl 1 rfl rfl ?_
      refine jv_callV (pc' := 25) (o := some (.int (f_X5_currentEdge σ p1))) (σ' := σ) hE dX7_pathEdge_22 rfl lV_X7_173 (ok_X5_currentEdge rfl) rfl rfl rfl (by decide) rfl (Nat.le_of_ble_eq_true rfl) ?_
      show jv_V E 25 [some (.ref 0), some (.int p1)] [.int (f_X5_currentEdge σ p1)] σ
      rcases jv_xe_or h with ⟨e6, hq5, h⟩ | ⟨q5, hq5, h⟩
      · cases h
        exact jv_callSt hE hT dX7_pathEdge_25 lS_X7_176 (okt_X7_requireListed hl0 hq5) hR rfl (by decide) rfl (Nat.le_of_ble_eq_true rfl)
      · refine jv_callS (pc' := 28) (o := some (.int q5)) (σ' := σ) hE dX7_pathEdge_25 rfl lS_X7_176 (ok_X7_requireListed hq5) rfl (by decide) rfl (Nat.le_of_ble_eq_true rfl) ?_
        show jv_V E 28 [some (.ref 0), some (.int p1)] [.int q5] σ
        cases h
noncomputable def f_X7_nextWalk (σ : jv_S) : Option (Except String Int32 × jv_S) := jv_xe (f_X7_requireStarted σ (σ.1 0 8)) (fun e2 => some (.error e2, σ)) (fun q1 => if (f_X6_drawnTotal σ) < (50 : Int32) then (jv_bd (f_X6_advance σ) (fun q4 => if q4.1 = true then (some (.ok (f_X6_currentLength q4.2), q4.2)) else (some (.error "java/util/NoSuchElementException", q4.2)))) else (some (.error "java/lang/IllegalStateException", σ)))
set_option maxRecDepth 100000 in
set_option maxHeartbeats 4000000 in
theorem ok_X7_nextWalk {G : jv_G} {l : Launch} {σ : jv_S} {r : Int32} {τ : jv_S} (h : f_X7_nextWalk σ = some (.ok r, τ)) : jv_Cn G l 5 M_X7_nextWalk [.ref 0] σ (some (.int r)) τ := by
  refine jv_of (L0 := [some (.ref 0)]) (by decide +kernel) (Nat.le_of_ble_eq_true rfl) rfl (jv_okI _) (fun E e1 e2 hE hret => ?_)
  unfold f_X7_nextWalk at h
  refine jv_aload_n (x := 0) (pc' := 1) hE dX7_nextWalk_0 rfl 0 rfl rfl ?_
  refine jv_get (v := .int (σ.1 0 8)) (pc' := 4) hE dX7_nextWalk_1 rfl lF_X7_184 rfl rfl rfl ?_
  rcases jv_xe_or h with ⟨e2, hq1, h⟩ | ⟨q1, hq1, h⟩
  · cases h
  · refine jv_callS (pc' := 7) (o := none) (σ' := σ) hE dX7_nextWalk_4 rfl lS_X7_149 (ok_X7_requireStarted hq1) rfl (by decide) rfl (Nat.le_of_ble_eq_true rfl) ?_
    show jv_V E 7 [some (.ref 0)] [] σ
    refine jv_aload_n (x := 0) (pc' := 8) hE dX7_nextWalk_7 rfl 0 rfl rfl ?_
    refine jv_get (v := .ref 17) (pc' := 11) hE dX7_nextWalk_8 rfl lF_X7_42 rfl rfl rfl ?_
    refine jv_callV (pc' := 14) (o := some (.int (f_X6_drawnTotal σ))) (σ' := σ) hE dX7_nextWalk_11 rfl lV_X7_187 (ok_X6_drawnTotal rfl) rfl rfl rfl (by decide) rfl (Nat.le_of_ble_eq_true rfl) ?_
    show jv_V E 14 [some (.ref 0)] [.int (f_X6_drawnTotal σ)] σ
    refine jv_bipush (v := (50 : Int32)) (pc' := 16) hE dX7_nextWalk_14 rfl (by decide) ?_
    refine jv_icmp_lt (x := (f_X6_drawnTotal σ)) (y := (50 : Int32)) (tgt := 29) (pc' := 19) hE dX7_nextWalk_16 (by decide) rfl (fun c3 => ?_) (fun c3 => ?_)
    · rw [if_pos c3] at h
      refine jv_aload_n (x := 0) (pc' := 30) hE dX7_nextWalk_29 rfl 0 rfl rfl ?_
      refine jv_get (v := .ref 17) (pc' := 33) hE dX7_nextWalk_30 rfl lF_X7_42 rfl rfl rfl ?_
      obtain ⟨q4, hq4, h⟩ := jv_bd_some h
      refine jv_callV (pc' := 36) (o := some (.int (jv_b q4.1))) (σ' := q4.2) hE dX7_nextWalk_33 rfl lV_X7_190 (ok_X6_advance hq4) rfl rfl rfl (by decide) rfl (Nat.le_of_ble_eq_true rfl) ?_
      show jv_V E 36 [some (.ref 0)] [.int (jv_b q4.1)] q4.2
      refine jv_if_ne (x := (jv_b q4.1)) (tgt := 49) (pc' := 39) hE dX7_nextWalk_36 (by decide) rfl (fun c5 => ?_) (fun c5 => ?_)
      · have c5 := jv_b1 c5
        rw [if_pos c5] at h
        refine jv_aload_n (x := 0) (pc' := 50) hE dX7_nextWalk_49 rfl 0 rfl rfl ?_
        refine jv_get (v := .ref 17) (pc' := 53) hE dX7_nextWalk_50 rfl lF_X7_42 rfl rfl rfl ?_
        refine jv_callV (pc' := 56) (o := some (.int (f_X6_currentLength q4.2))) (σ' := q4.2) hE dX7_nextWalk_53 rfl lV_X7_193 (ok_X6_currentLength rfl) rfl rfl rfl (by decide) rfl (Nat.le_of_ble_eq_true rfl) ?_
        show jv_V E 56 [some (.ref 0)] [.int (f_X6_currentLength q4.2)] q4.2
        cases h
        exact hret _ _ dX7_nextWalk_56
      · have c5 := jv_b0 c5
        rw [if_neg c5] at h
        cases h
    · rw [if_neg c3] at h
      cases h
set_option maxRecDepth 100000 in
set_option maxHeartbeats 4000000 in
theorem okt_X7_nextWalk {G : jv_G} {l : Launch} (hl0 : l.stackTraces = false) {σ : jv_S} {E0 : String} {τ : jv_S} (h : f_X7_nextWalk σ = some (.error E0, τ)) : jv_Ct G l 5 M_X7_nextWalk [.ref 0] σ E0 τ := by
  refine jv_oft (L0 := [some (.ref 0)]) hl0 (by decide +kernel) (Nat.le_of_ble_eq_true rfl) rfl (fun E e1 e2 hE hR hT => ?_)
  subst e1; subst e2
  unfold f_X7_nextWalk at h
  refine jv_aload_n (x := 0) (pc' := 1) hE dX7_nextWalk_0 rfl 0 rfl rfl ?_
  refine jv_get (v := .int (σ.1 0 8)) (pc' := 4) hE dX7_nextWalk_1 rfl lF_X7_184 rfl rfl rfl ?_
  rcases jv_xe_or h with ⟨e2, hq1, h⟩ | ⟨q1, hq1, h⟩
  · cases h
    exact jv_callSt hE hT dX7_nextWalk_4 lS_X7_149 (okt_X7_requireStarted hl0 hq1) hR rfl (by decide) rfl (Nat.le_of_ble_eq_true rfl)
  · refine jv_callS (pc' := 7) (o := none) (σ' := σ) hE dX7_nextWalk_4 rfl lS_X7_149 (ok_X7_requireStarted hq1) rfl (by decide) rfl (Nat.le_of_ble_eq_true rfl) ?_
    show jv_V E 7 [some (.ref 0)] [] σ
    refine jv_aload_n (x := 0) (pc' := 8) hE dX7_nextWalk_7 rfl 0 rfl rfl ?_
    refine jv_get (v := .ref 17) (pc' := 11) hE dX7_nextWalk_8 rfl lF_X7_42 rfl rfl rfl ?_
    refine jv_callV (pc' := 14) (o := some (.int (f_X6_drawnTotal σ))) (σ' := σ) hE dX7_nextWalk_11 rfl lV_X7_187 (ok_X6_drawnTotal rfl) rfl rfl rfl (by decide) rfl (Nat.le_of_ble_eq_true rfl) ?_
    show jv_V E 14 [some (.ref 0)] [.int (f_X6_drawnTotal σ)] σ
    refine jv_bipush (v := (50 : Int32)) (pc' := 16) hE dX7_nextWalk_14 rfl (by decide) ?_
    refine jv_icmp_lt (x := (f_X6_drawnTotal σ)) (y := (50 : Int32)) (tgt := 29) (pc' := 19) hE dX7_nextWalk_16 (by decide) rfl (fun c3 => ?_) (fun c3 => ?_)
    · rw [if_pos c3] at h
      refine jv_aload_n (x := 0) (pc' := 30) hE dX7_nextWalk_29 rfl 0 rfl rfl ?_
      refine jv_get (v := .ref 17) (pc' := 33) hE dX7_nextWalk_30 rfl lF_X7_42 rfl rfl rfl ?_
      obtain ⟨q4, hq4, h⟩ := jv_bd_some h
      refine jv_callV (pc' := 36) (o := some (.int (jv_b q4.1))) (σ' := q4.2) hE dX7_nextWalk_33 rfl lV_X7_190 (ok_X6_advance hq4) rfl rfl rfl (by decide) rfl (Nat.le_of_ble_eq_true rfl) ?_
      show jv_V E 36 [some (.ref 0)] [.int (jv_b q4.1)] q4.2
      refine jv_if_ne (x := (jv_b q4.1)) (tgt := 49) (pc' := 39) hE dX7_nextWalk_36 (by decide) rfl (fun c5 => ?_) (fun c5 => ?_)
      · have c5 := jv_b1 c5
        rw [if_pos c5] at h
        refine jv_aload_n (x := 0) (pc' := 50) hE dX7_nextWalk_49 rfl 0 rfl rfl ?_
        refine jv_get (v := .ref 17) (pc' := 53) hE dX7_nextWalk_50 rfl lF_X7_42 rfl rfl rfl ?_
        refine jv_callV (pc' := 56) (o := some (.int (f_X6_currentLength q4.2))) (σ' := q4.2) hE dX7_nextWalk_53 rfl lV_X7_193 (ok_X6_currentLength rfl) rfl rfl rfl (by decide) rfl (Nat.le_of_ble_eq_true rfl) ?_
        show jv_V E 56 [some (.ref 0)] [.int (f_X6_currentLength q4.2)] q4.2
        cases h
      · have c5 := jv_b0 c5
        rw [if_neg c5] at h
        cases h
        exact jv_throwN hE hT hR lT_156_191_160 dX7_nextWalk_39 dX7_nextWalk_42 dX7_nextWalk_43 dX7_nextWalk_45 dX7_nextWalk_48 (Nat.le_of_ble_eq_true rfl)
    · rw [if_neg c3] at h
      cases h
      exact jv_throw hE hT hR lT_79_188_83 dX7_nextWalk_19 dX7_nextWalk_22 dX7_nextWalk_23 dX7_nextWalk_25 dX7_nextWalk_28 (Nat.le_of_ble_eq_true rfl)
noncomputable def f_X7_walksDrawn (σ : jv_S) : Except String Int32 := jv_xe (f_X7_requireStarted σ (σ.1 0 8)) (fun e2 => .error e2) (fun q1 => .ok (f_X6_drawnTotal σ))
set_option maxRecDepth 100000 in
set_option maxHeartbeats 4000000 in
theorem ok_X7_walksDrawn {G : jv_G} {l : Launch} {σ : jv_S} {r : Int32} (h : f_X7_walksDrawn σ = .ok r) : jv_Cn G l 2 M_X7_walksDrawn [.ref 0] σ (some (.int r)) σ := by
  refine jv_of (L0 := [some (.ref 0)]) (by decide +kernel) (Nat.le_of_ble_eq_true rfl) rfl (jv_okI _) (fun E e1 e2 hE hret => ?_)
  unfold f_X7_walksDrawn at h
  refine jv_aload_n (x := 0) (pc' := 1) hE dX7_walksDrawn_0 rfl 0 rfl rfl ?_
  refine jv_get (v := .int (σ.1 0 8)) (pc' := 4) hE dX7_walksDrawn_1 rfl lF_X7_184 rfl rfl rfl ?_
  rcases jv_xe_or h with ⟨e2, hq1, h⟩ | ⟨q1, hq1, h⟩
  · cases h
  · refine jv_callS (pc' := 7) (o := none) (σ' := σ) hE dX7_walksDrawn_4 rfl lS_X7_149 (ok_X7_requireStarted hq1) rfl (by decide) rfl (Nat.le_of_ble_eq_true rfl) ?_
    show jv_V E 7 [some (.ref 0)] [] σ
    refine jv_aload_n (x := 0) (pc' := 8) hE dX7_walksDrawn_7 rfl 0 rfl rfl ?_
    refine jv_get (v := .ref 17) (pc' := 11) hE dX7_walksDrawn_8 rfl lF_X7_42 rfl rfl rfl ?_
    refine jv_callV (pc' := 14) (o := some (.int (f_X6_drawnTotal σ))) (σ' := σ) hE dX7_walksDrawn_11 rfl lV_X7_187 (ok_X6_drawnTotal rfl) rfl rfl rfl (by decide) rfl (Nat.le_of_ble_eq_true rfl) ?_
    show jv_V E 14 [some (.ref 0)] [.int (f_X6_drawnTotal σ)] σ
    cases h
    exact hret _ _ dX7_walksDrawn_14
set_option maxRecDepth 100000 in
set_option maxHeartbeats 4000000 in
theorem okt_X7_walksDrawn {G : jv_G} {l : Launch} (hl0 : l.stackTraces = false) {σ : jv_S} {E0 : String} (h : f_X7_walksDrawn σ = .error E0) : jv_Ct G l 2 M_X7_walksDrawn [.ref 0] σ E0 σ := by
  refine jv_oft (L0 := [some (.ref 0)]) hl0 (by decide +kernel) (Nat.le_of_ble_eq_true rfl) rfl (fun E e1 e2 hE hR hT => ?_)
  subst e1; subst e2
  unfold f_X7_walksDrawn at h
  refine jv_aload_n (x := 0) (pc' := 1) hE dX7_walksDrawn_0 rfl 0 rfl rfl ?_
  refine jv_get (v := .int (σ.1 0 8)) (pc' := 4) hE dX7_walksDrawn_1 rfl lF_X7_184 rfl rfl rfl ?_
  rcases jv_xe_or h with ⟨e2, hq1, h⟩ | ⟨q1, hq1, h⟩
  · cases h
    exact jv_callSt hE hT dX7_walksDrawn_4 lS_X7_149 (okt_X7_requireStarted hl0 hq1) hR rfl (by decide) rfl (Nat.le_of_ble_eq_true rfl)
  · refine jv_callS (pc' := 7) (o := none) (σ' := σ) hE dX7_walksDrawn_4 rfl lS_X7_149 (ok_X7_requireStarted hq1) rfl (by decide) rfl (Nat.le_of_ble_eq_true rfl) ?_
    show jv_V E 7 [some (.ref 0)] [] σ
    refine jv_aload_n (x := 0) (pc' := 8) hE dX7_walksDrawn_7 rfl 0 rfl rfl ?_
    refine jv_get (v := .ref 17) (pc' := 11) hE dX7_walksDrawn_8 rfl lF_X7_42 rfl rfl rfl ?_
    refine jv_callV (pc' := 14) (o := some (.int (f_X6_drawnTotal σ))) (σ' := σ) hE dX7_walksDrawn_11 rfl lV_X7_187 (ok_X6_drawnTotal rfl) rfl rfl rfl (by decide) rfl (Nat.le_of_ble_eq_true rfl) ?_
    show jv_V E 14 [some (.ref 0)] [.int (f_X6_drawnTotal σ)] σ
    cases h
noncomputable def f_X7_walkEdges (σ : jv_S) : Except String Int32 := jv_xe (f_X7_requireStarted σ (σ.1 0 8)) (fun e2 => .error e2) (fun q1 => jv_xe (f_X7_requireDrawn σ (f_X6_drawnTotal σ)) (fun e4 => .error e4) (fun q3 => .ok (f_X6_currentSize σ)))
set_option maxRecDepth 100000 in
set_option maxHeartbeats 4000000 in
theorem ok_X7_walkEdges {G : jv_G} {l : Launch} {σ : jv_S} {r : Int32} (h : f_X7_walkEdges σ = .ok r) : jv_Cn G l 4 M_X7_walkEdges [.ref 0] σ (some (.int r)) σ := by
  refine jv_of (L0 := [some (.ref 0)]) (by decide +kernel) (Nat.le_of_ble_eq_true rfl) rfl (jv_okI _) (fun E e1 e2 hE hret => ?_)
  unfold f_X7_walkEdges at h
  refine jv_aload_n (x := 0) (pc' := 1) hE dX7_walkEdges_0 rfl 0 rfl rfl ?_
  refine jv_get (v := .int (σ.1 0 8)) (pc' := 4) hE dX7_walkEdges_1 rfl lF_X7_184 rfl rfl rfl ?_
  rcases jv_xe_or h with ⟨e2, hq1, h⟩ | ⟨q1, hq1, h⟩
  · cases h
  · refine jv_callS (pc' := 7) (o := none) (σ' := σ) hE dX7_walkEdges_4 rfl lS_X7_149 (ok_X7_requireStarted hq1) rfl (by decide) rfl (Nat.le_of_ble_eq_true rfl) ?_
    show jv_V E 7 [some (.ref 0)] [] σ
    refine jv_aload_n (x := 0) (pc' := 8) hE dX7_walkEdges_7 rfl 0 rfl rfl ?_
    refine jv_get (v := .ref 17) (pc' := 11) hE dX7_walkEdges_8 rfl lF_X7_42 rfl rfl rfl ?_
    refine jv_callV (pc' := 14) (o := some (.int (f_X6_drawnTotal σ))) (σ' := σ) hE dX7_walkEdges_11 rfl lV_X7_187 (ok_X6_drawnTotal rfl) rfl rfl rfl (by decide) rfl (Nat.le_of_ble_eq_true rfl) ?_
    show jv_V E 14 [some (.ref 0)] [.int (f_X6_drawnTotal σ)] σ
    rcases jv_xe_or h with ⟨e4, hq3, h⟩ | ⟨q3, hq3, h⟩
    · cases h
    · refine jv_callS (pc' := 17) (o := none) (σ' := σ) hE dX7_walkEdges_14 rfl lS_X7_167 (ok_X7_requireDrawn hq3) rfl (by decide) rfl (Nat.le_of_ble_eq_true rfl) ?_
      show jv_V E 17 [some (.ref 0)] [] σ
      refine jv_aload_n (x := 0) (pc' := 18) hE dX7_walkEdges_17 rfl 0 rfl rfl ?_
      refine jv_get (v := .ref 17) (pc' := 21) hE dX7_walkEdges_18 rfl lF_X7_42 rfl rfl rfl ?_
      refine jv_callV (pc' := 24) (o := some (.int (f_X6_currentSize σ))) (σ' := σ) hE dX7_walkEdges_21 rfl lV_X7_194 (ok_X6_currentSize rfl) rfl rfl rfl (by decide) rfl (Nat.le_of_ble_eq_true rfl) ?_
      show jv_V E 24 [some (.ref 0)] [.int (f_X6_currentSize σ)] σ
      cases h
      exact hret _ _ dX7_walkEdges_24
set_option maxRecDepth 100000 in
set_option maxHeartbeats 4000000 in
theorem okt_X7_walkEdges {G : jv_G} {l : Launch} (hl0 : l.stackTraces = false) {σ : jv_S} {E0 : String} (h : f_X7_walkEdges σ = .error E0) : jv_Ct G l 4 M_X7_walkEdges [.ref 0] σ E0 σ := by
  refine jv_oft (L0 := [some (.ref 0)]) hl0 (by decide +kernel) (Nat.le_of_ble_eq_true rfl) rfl (fun E e1 e2 hE hR hT => ?_)
  subst e1; subst e2
  unfold f_X7_walkEdges at h
  refine jv_aload_n (x := 0) (pc' := 1) hE dX7_walkEdges_0 rfl 0 rfl rfl ?_
  refine jv_get (v := .int (σ.1 0 8)) (pc' := 4) hE dX7_walkEdges_1 rfl lF_X7_184 rfl rfl rfl ?_
  rcases jv_xe_or h with ⟨e2, hq1, h⟩ | ⟨q1, hq1, h⟩
  · cases h
    exact jv_callSt hE hT dX7_walkEdges_4 lS_X7_149 (okt_X7_requireStarted hl0 hq1) hR rfl (by decide) rfl (Nat.le_of_ble_eq_true rfl)
  · refine jv_callS (pc' := 7) (o := none) (σ' := σ) hE dX7_walkEdges_4 rfl lS_X7_149 (ok_X7_requireStarted hq1) rfl (by decide) rfl (Nat.le_of_ble_eq_true rfl) ?_
    show jv_V E 7 [some (.ref 0)] [] σ
    refine jv_aload_n (x := 0) (pc' := 8) hE dX7_walkEdges_7 rfl 0 rfl rfl ?_
    refine jv_get (v := .ref 17) (pc' := 11) hE dX7_walkEdges_8 rfl lF_X7_42 rfl rfl rfl ?_
    refine jv_callV (pc' := 14) (o := some (.int (f_X6_drawnTotal σ))) (σ' := σ) hE dX7_walkEdges_11 rfl lV_X7_187 (ok_X6_drawnTotal rfl) rfl rfl rfl (by decide) rfl (Nat.le_of_ble_eq_true rfl) ?_
    show jv_V E 14 [some (.ref 0)] [.int (f_X6_drawnTotal σ)] σ
    rcases jv_xe_or h with ⟨e4, hq3, h⟩ | ⟨q3, hq3, h⟩
    · cases h
      exact jv_callSt hE hT dX7_walkEdges_14 lS_X7_167 (okt_X7_requireDrawn hl0 hq3) hR rfl (by decide) rfl (Nat.le_of_ble_eq_true rfl)
    · refine jv_callS (pc' := 17) (o := none) (σ' := σ) hE dX7_walkEdges_14 rfl lS_X7_167 (ok_X7_requireDrawn hq3) rfl (by decide) rfl (Nat.le_of_ble_eq_true rfl) ?_
      show jv_V E 17 [some (.ref 0)] [] σ
      refine jv_aload_n (x := 0) (pc' := 18) hE dX7_walkEdges_17 rfl 0 rfl rfl ?_
      refine jv_get (v := .ref 17) (pc' := 21) hE dX7_walkEdges_18 rfl lF_X7_42 rfl rfl rfl ?_
      refine jv_callV (pc' := 24) (o := some (.int (f_X6_currentSize σ))) (σ' := σ) hE dX7_walkEdges_21 rfl lV_X7_194 (ok_X6_currentSize rfl) rfl rfl rfl (by decide) rfl (Nat.le_of_ble_eq_true rfl) ?_
      show jv_V E 24 [some (.ref 0)] [.int (f_X6_currentSize σ)] σ
      cases h
noncomputable def f_X7_walkEdge (σ : jv_S) (p1 : Int32) : Option (Except String Int32) := jv_xe (f_X7_requireStarted σ (σ.1 0 8)) (fun e2 => some (.error e2)) (fun q1 => jv_xe (f_X7_requireDrawn σ (f_X6_drawnTotal σ)) (fun e4 => some (.error e4)) (fun q3 => jv_bd (f_X6_currentEdge σ p1) (fun q5 => jv_xe (f_X7_requireListed σ q5) (fun e7 => some (.error e7)) (fun q6 => some (.ok q6)))))
set_option maxRecDepth 100000 in
set_option maxHeartbeats 4000000 in
theorem ok_X7_walkEdge {G : jv_G} {l : Launch} {σ : jv_S} {p1 : Int32} {r : Int32} (h : f_X7_walkEdge σ p1 = some (.ok r)) : jv_Cn G l 5 M_X7_walkEdge [.ref 0, .int p1] σ (some (.int r)) σ := by
  refine jv_of (L0 := [some (.ref 0), some (.int p1)]) (by decide +kernel) (Nat.le_of_ble_eq_true rfl) rfl (jv_okI _) (fun E e1 e2 hE hret => ?_)
  unfold f_X7_walkEdge at h
  refine jv_aload_n (x := 0) (pc' := 1) hE dX7_walkEdge_0 rfl 0 rfl rfl ?_
  refine jv_get (v := .int (σ.1 0 8)) (pc' := 4) hE dX7_walkEdge_1 rfl lF_X7_184 rfl rfl rfl ?_
  rcases jv_xe_or h with ⟨e2, hq1, h⟩ | ⟨q1, hq1, h⟩
  · cases h
  · refine jv_callS (pc' := 7) (o := none) (σ' := σ) hE dX7_walkEdge_4 rfl lS_X7_149 (ok_X7_requireStarted hq1) rfl (by decide) rfl (Nat.le_of_ble_eq_true rfl) ?_
    show jv_V E 7 [some (.ref 0), some (.int p1)] [] σ
    refine jv_aload_n (x := 0) (pc' := 8) hE dX7_walkEdge_7 rfl 0 rfl rfl ?_
    refine jv_get (v := .ref 17) (pc' := 11) hE dX7_walkEdge_8 rfl lF_X7_42 rfl rfl rfl ?_
    refine jv_callV (pc' := 14) (o := some (.int (f_X6_drawnTotal σ))) (σ' := σ) hE dX7_walkEdge_11 rfl lV_X7_187 (ok_X6_drawnTotal rfl) rfl rfl rfl (by decide) rfl (Nat.le_of_ble_eq_true rfl) ?_
    show jv_V E 14 [some (.ref 0), some (.int p1)] [.int (f_X6_drawnTotal σ)] σ
    rcases jv_xe_or h with ⟨e4, hq3, h⟩ | ⟨q3, hq3, h⟩
    · cases h
    · refine jv_callS (pc' := 17) (o := none) (σ' := σ) hE dX7_walkEdge_14 rfl lS_X7_167 (ok_X7_requireDrawn hq3) rfl (by decide) rfl (Nat.le_of_ble_eq_true rfl) ?_
      show jv_V E 17 [some (.ref 0), some (.int p1)] [] σ
      refine jv_aload_n (x := 0) (pc' := 18) hE dX7_walkEdge_17 rfl 0 rfl rfl ?_
      refine jv_get (v := .ref 17) (pc' := 21) hE dX7_walkEdge_18 rfl lF_X7_42 rfl rfl rfl ?_
      refine jv_iload_n (x := p1) (pc' := 22) hE dX7_walkEdge_21 rfl 1 rfl rfl ?_
      obtain ⟨q5, hq5, h⟩ := jv_bd_some h
      refine jv_callV (pc' := 25) (o := some (.int q5)) (σ' := σ) hE dX7_walkEdge_22 rfl lV_X7_195 (ok_X6_currentEdge hq5) rfl rfl rfl (by decide) rfl (Nat.le_of_ble_eq_true rfl) ?_
      show jv_V E 25 [some (.ref 0), some (.int p1)] [.int q5] σ
      rcases jv_xe_or h with ⟨e7, hq6, h⟩ | ⟨q6, hq6, h⟩
      · cases h
      · refine jv_callS (pc' := 28) (o := some (.int q6)) (σ' := σ) hE dX7_walkEdge_25 rfl lS_X7_176 (ok_X7_requireListed hq6) rfl (by decide) rfl (Nat.le_of_ble_eq_true rfl) ?_
        show jv_V E 28 [some (.ref 0), some (.int p1)] [.int q6] σ
        cases h
        exact hret _ _ dX7_walkEdge_28
set_option maxRecDepth 100000 in
set_option maxHeartbeats 4000000 in
theorem okt_X7_walkEdge {G : jv_G} {l : Launch} (hl0 : l.stackTraces = false) {σ : jv_S} {p1 : Int32} {E0 : String} (h : f_X7_walkEdge σ p1 = some (.error E0)) : jv_Ct G l 5 M_X7_walkEdge [.ref 0, .int p1] σ E0 σ := by
  refine jv_oft (L0 := [some (.ref 0), some (.int p1)]) hl0 (by decide +kernel) (Nat.le_of_ble_eq_true rfl) rfl (fun E e1 e2 hE hR hT => ?_)
  subst e1; subst e2
  unfold f_X7_walkEdge at h
  refine jv_aload_n (x := 0) (pc' := 1) hE dX7_walkEdge_0 rfl 0 rfl rfl ?_
  refine jv_get (v := .int (σ.1 0 8)) (pc' := 4) hE dX7_walkEdge_1 rfl lF_X7_184 rfl rfl rfl ?_
  rcases jv_xe_or h with ⟨e2, hq1, h⟩ | ⟨q1, hq1, h⟩
  · cases h
    exact jv_callSt hE hT dX7_walkEdge_4 lS_X7_149 (okt_X7_requireStarted hl0 hq1) hR rfl (by decide) rfl (Nat.le_of_ble_eq_true rfl)
  · refine jv_callS (pc' := 7) (o := none) (σ' := σ) hE dX7_walkEdge_4 rfl lS_X7_149 (ok_X7_requireStarted hq1) rfl (by decide) rfl (Nat.le_of_ble_eq_true rfl) ?_
    show jv_V E 7 [some (.ref 0), some (.int p1)] [] σ
    refine jv_aload_n (x := 0) (pc' := 8) hE dX7_walkEdge_7 rfl 0 rfl rfl ?_
    refine jv_get (v := .ref 17) (pc' := 11) hE dX7_walkEdge_8 rfl lF_X7_42 rfl rfl rfl ?_
    refine jv_callV (pc' := 14) (o := some (.int (f_X6_drawnTotal σ))) (σ' := σ) hE dX7_walkEdge_11 rfl lV_X7_187 (ok_X6_drawnTotal rfl) rfl rfl rfl (by decide) rfl (Nat.le_of_ble_eq_true rfl) ?_
    show jv_V E 14 [some (.ref 0), some (.int p1)] [.int (f_X6_drawnTotal σ)] σ
    rcases jv_xe_or h with ⟨e4, hq3, h⟩ | ⟨q3, hq3, h⟩
    · cases h
      exact jv_callSt hE hT dX7_walkEdge_14 lS_X7_167 (okt_X7_requireDrawn hl0 hq3) hR rfl (by decide) rfl (Nat.le_of_ble_eq_true rfl)
    · refine jv_callS (pc' := 17) (o := none) (σ' := σ) hE dX7_walkEdge_14 rfl lS_X7_167 (ok_X7_requireDrawn hq3) rfl (by decide) rfl (Nat.le_of_ble_eq_true rfl) ?_
      show jv_V E 17 [some (.ref 0), some (.int p1)] [] σ
      refine jv_aload_n (x := 0) (pc' := 18) hE dX7_walkEdge_17 rfl 0 rfl rfl ?_
      refine jv_get (v := .ref 17) (pc' := 21) hE dX7_walkEdge_18 rfl lF_X7_42 rfl rfl rfl ?_
      refine jv_iload_n (x := p1) (pc' := 22) hE dX7_walkEdge_21 rfl 1 rfl rfl ?_
      obtain ⟨q5, hq5, h⟩ := jv_bd_some h
      refine jv_callV (pc' := 25) (o := some (.int q5)) (σ' := σ) hE dX7_walkEdge_22 rfl lV_X7_195 (ok_X6_currentEdge hq5) rfl rfl rfl (by decide) rfl (Nat.le_of_ble_eq_true rfl) ?_
      show jv_V E 25 [some (.ref 0), some (.int p1)] [.int q5] σ
      rcases jv_xe_or h with ⟨e7, hq6, h⟩ | ⟨q6, hq6, h⟩
      · cases h
        exact jv_callSt hE hT dX7_walkEdge_25 lS_X7_176 (okt_X7_requireListed hl0 hq6) hR rfl (by decide) rfl (Nat.le_of_ble_eq_true rfl)
      · refine jv_callS (pc' := 28) (o := some (.int q6)) (σ' := σ) hE dX7_walkEdge_25 rfl lS_X7_176 (ok_X7_requireListed hq6) rfl (by decide) rfl (Nat.le_of_ble_eq_true rfl) ?_
        show jv_V E 28 [some (.ref 0), some (.int p1)] [.int q6] σ
        cases h
noncomputable def f_X7_usableEdges (σ : jv_S) : Int32 := (f_X3_usableTotal σ)
set_option maxRecDepth 100000 in
set_option maxHeartbeats 4000000 in
theorem ok_X7_usableEdges {G : jv_G} {l : Launch} {σ : jv_S} {r : Int32} (h : f_X7_usableEdges σ = r) : jv_Cn G l 3 M_X7_usableEdges [.ref 0] σ (some (.int r)) σ := by
  refine jv_of (L0 := [some (.ref 0)]) (by decide +kernel) (Nat.le_of_ble_eq_true rfl) rfl (jv_okI _) (fun E e1 e2 hE hret => ?_)
  unfold f_X7_usableEdges at h
  refine jv_aload_n (x := 0) (pc' := 1) hE dX7_usableEdges_0 rfl 0 rfl rfl ?_
  refine jv_get (v := .ref 1) (pc' := 4) hE dX7_usableEdges_1 rfl lF_X7_10 rfl rfl rfl ?_
  refine jv_callV (pc' := 7) (o := some (.int (f_X3_usableTotal σ))) (σ' := σ) hE dX7_usableEdges_4 rfl lV_X7_130 (ok_X3_usableTotal rfl) rfl rfl rfl (by decide) rfl (Nat.le_of_ble_eq_true rfl) ?_
  show jv_V E 7 [some (.ref 0)] [.int (f_X3_usableTotal σ)] σ
  cases h
  exact hret _ _ dX7_usableEdges_7
noncomputable def f_X7_requireWay (σ : jv_S) (p1 : Int32) : Except String Int32 := if p1 < (1000000000 : Int32) then (.ok p1) else (.error "java/util/NoSuchElementException")
set_option maxRecDepth 100000 in
set_option maxHeartbeats 4000000 in
theorem ok_X7_requireWay {G : jv_G} {l : Launch} {σ : jv_S} {p1 : Int32} {r : Int32} (h : f_X7_requireWay σ p1 = .ok r) : jv_Cn G l 1 M_X7_requireWay [.int p1] σ (some (.int r)) σ := by
  refine jv_of (L0 := [some (.int p1)]) (by decide +kernel) (Nat.le_of_ble_eq_true rfl) rfl (jv_okI _) (fun E e1 e2 hE hret => ?_)
  unfold f_X7_requireWay at h
  refine jv_iload_n (x := p1) (pc' := 1) hE dX7_requireWay_0 rfl 0 rfl rfl ?_
  refine jv_ldc (v := (1000000000 : Int32)) (pc' := 3) hE dX7_requireWay_1 rfl lC_X7_233 ?_
  refine jv_icmp_lt (x := p1) (y := (1000000000 : Int32)) (tgt := 16) (pc' := 6) hE dX7_requireWay_3 (by decide) rfl (fun c1 => ?_) (fun c1 => ?_)
  · rw [if_pos c1] at h
    refine jv_iload_n (x := p1) (pc' := 17) hE dX7_requireWay_16 rfl 0 rfl rfl ?_
    cases h
    exact hret _ _ dX7_requireWay_17
  · rw [if_neg c1] at h
    cases h
set_option maxRecDepth 100000 in
set_option maxHeartbeats 4000000 in
theorem okt_X7_requireWay {G : jv_G} {l : Launch} (hl0 : l.stackTraces = false) {σ : jv_S} {p1 : Int32} {E0 : String} (h : f_X7_requireWay σ p1 = .error E0) : jv_Ct G l 1 M_X7_requireWay [.int p1] σ E0 σ := by
  refine jv_oft (L0 := [some (.int p1)]) hl0 (by decide +kernel) (Nat.le_of_ble_eq_true rfl) rfl (fun E e1 e2 hE hR hT => ?_)
  subst e1; subst e2
  unfold f_X7_requireWay at h
  refine jv_iload_n (x := p1) (pc' := 1) hE dX7_requireWay_0 rfl 0 rfl rfl ?_
  refine jv_ldc (v := (1000000000 : Int32)) (pc' := 3) hE dX7_requireWay_1 rfl lC_X7_233 ?_
  refine jv_icmp_lt (x := p1) (y := (1000000000 : Int32)) (tgt := 16) (pc' := 6) hE dX7_requireWay_3 (by decide) rfl (fun c1 => ?_) (fun c1 => ?_)
  · rw [if_pos c1] at h
    refine jv_iload_n (x := p1) (pc' := 17) hE dX7_requireWay_16 rfl 0 rfl rfl ?_
    cases h
  · rw [if_neg c1] at h
    cases h
    exact jv_throwN hE hT hR lT_156_234_160 dX7_requireWay_6 dX7_requireWay_9 dX7_requireWay_10 dX7_requireWay_12 dX7_requireWay_15 (Nat.le_of_ble_eq_true rfl)
noncomputable def f_X7_distance (σ : jv_S) (p1 : Int32) (p2 : Int32) : Option (Except String Int32 × jv_S) := jv_xe (f_X7_requireNodes σ p1 p2) (fun e2 => some (.error e2, σ)) (fun q1 => jv_bd (f_X2_measureTo 9 σ p2) (fun q3 => jv_xe (f_X7_requireWay q3 (f_X2_ofNode 9 q3 p1)) (fun e5 => some (.error e5, q3)) (fun q4 => some (.ok q4, q3))))
set_option maxRecDepth 100000 in
set_option maxHeartbeats 4000000 in
theorem ok_X7_distance {G : jv_G} {l : Launch} {σ : jv_S} {p1 : Int32} {p2 : Int32} {r : Int32} {τ : jv_S} (h : f_X7_distance σ p1 p2 = some (.ok r, τ)) : jv_Cn G l 5 M_X7_distance [.ref 0, .int p1, .int p2] σ (some (.int r)) τ := by
  refine jv_of (L0 := [some (.ref 0), some (.int p1), some (.int p2)]) (by decide +kernel) (Nat.le_of_ble_eq_true rfl) rfl (jv_okI _) (fun E e1 e2 hE hret => ?_)
  unfold f_X7_distance at h
  refine jv_aload_n (x := 0) (pc' := 1) hE dX7_distance_0 rfl 0 rfl rfl ?_
  refine jv_iload_n (x := p1) (pc' := 2) hE dX7_distance_1 rfl 1 rfl rfl ?_
  refine jv_iload_n (x := p2) (pc' := 3) hE dX7_distance_2 rfl 2 rfl rfl ?_
  rcases jv_xe_or h with ⟨e2, hq1, h⟩ | ⟨q1, hq1, h⟩
  · cases h
  · refine jv_callV (pc' := 6) (o := none) (σ' := σ) hE dX7_distance_3 rfl lV_X7_101 (ok_X7_requireNodes hq1) rfl rfl rfl (by decide) rfl (Nat.le_of_ble_eq_true rfl) ?_
    show jv_V E 6 [some (.ref 0), some (.int p1), some (.int p2)] [] σ
    refine jv_aload_n (x := 0) (pc' := 7) hE dX7_distance_6 rfl 0 rfl rfl ?_
    refine jv_get (v := .ref 8) (pc' := 10) hE dX7_distance_7 rfl lF_X7_21 rfl rfl rfl ?_
    refine jv_iload_n (x := p2) (pc' := 11) hE dX7_distance_10 rfl 2 rfl rfl ?_
    obtain ⟨q3, hq3, h⟩ := jv_bd_some h
    refine jv_callV (pc' := 14) (o := none) (σ' := q3) hE dX7_distance_11 rfl lV_X7_133 (ok_X2_measureTo_8 hq3) rfl rfl rfl (by decide) rfl (Nat.le_of_ble_eq_true rfl) ?_
    show jv_V E 14 [some (.ref 0), some (.int p1), some (.int p2)] [] q3
    refine jv_aload_n (x := 0) (pc' := 15) hE dX7_distance_14 rfl 0 rfl rfl ?_
    refine jv_get (v := .ref 8) (pc' := 18) hE dX7_distance_15 rfl lF_X7_21 rfl rfl rfl ?_
    refine jv_iload_n (x := p1) (pc' := 19) hE dX7_distance_18 rfl 1 rfl rfl ?_
    refine jv_callV (pc' := 22) (o := some (.int (f_X2_ofNode 9 q3 p1))) (σ' := q3) hE dX7_distance_19 rfl lV_X7_136 (ok_X2_ofNode_8 rfl) rfl rfl rfl (by decide) rfl (Nat.le_of_ble_eq_true rfl) ?_
    show jv_V E 22 [some (.ref 0), some (.int p1), some (.int p2)] [.int (f_X2_ofNode 9 q3 p1)] q3
    rcases jv_xe_or h with ⟨e5, hq4, h⟩ | ⟨q4, hq4, h⟩
    · cases h
    · refine jv_callS (pc' := 25) (o := some (.int q4)) (σ' := q3) hE dX7_distance_22 rfl lS_X7_139 (ok_X7_requireWay hq4) rfl (by decide) rfl (Nat.le_of_ble_eq_true rfl) ?_
      show jv_V E 25 [some (.ref 0), some (.int p1), some (.int p2)] [.int q4] q3
      cases h
      exact hret _ _ dX7_distance_25
set_option maxRecDepth 100000 in
set_option maxHeartbeats 4000000 in
theorem okt_X7_distance {G : jv_G} {l : Launch} (hl0 : l.stackTraces = false) {σ : jv_S} {p1 : Int32} {p2 : Int32} {E0 : String} {τ : jv_S} (h : f_X7_distance σ p1 p2 = some (.error E0, τ)) : jv_Ct G l 5 M_X7_distance [.ref 0, .int p1, .int p2] σ E0 τ := by
  refine jv_oft (L0 := [some (.ref 0), some (.int p1), some (.int p2)]) hl0 (by decide +kernel) (Nat.le_of_ble_eq_true rfl) rfl (fun E e1 e2 hE hR hT => ?_)
  subst e1; subst e2
  unfold f_X7_distance at h
  refine jv_aload_n (x := 0) (pc' := 1) hE dX7_distance_0 rfl 0 rfl rfl ?_
  refine jv_iload_n (x := p1) (pc' := 2) hE dX7_distance_1 rfl 1 rfl rfl ?_
  refine jv_iload_n (x := p2) (pc' := 3) hE dX7_distance_2 rfl 2 rfl rfl ?_
  rcases jv_xe_or h with ⟨e2, hq1, h⟩ | ⟨q1, hq1, h⟩
  · cases h
    exact jv_callVt hE hT dX7_distance_3 lV_X7_101 (okt_X7_requireNodes hl0 hq1) hR rfl rfl rfl (by decide) rfl (Nat.le_of_ble_eq_true rfl)
  · refine jv_callV (pc' := 6) (o := none) (σ' := σ) hE dX7_distance_3 rfl lV_X7_101 (ok_X7_requireNodes hq1) rfl rfl rfl (by decide) rfl (Nat.le_of_ble_eq_true rfl) ?_
    show jv_V E 6 [some (.ref 0), some (.int p1), some (.int p2)] [] σ
    refine jv_aload_n (x := 0) (pc' := 7) hE dX7_distance_6 rfl 0 rfl rfl ?_
    refine jv_get (v := .ref 8) (pc' := 10) hE dX7_distance_7 rfl lF_X7_21 rfl rfl rfl ?_
    refine jv_iload_n (x := p2) (pc' := 11) hE dX7_distance_10 rfl 2 rfl rfl ?_
    obtain ⟨q3, hq3, h⟩ := jv_bd_some h
    refine jv_callV (pc' := 14) (o := none) (σ' := q3) hE dX7_distance_11 rfl lV_X7_133 (ok_X2_measureTo_8 hq3) rfl rfl rfl (by decide) rfl (Nat.le_of_ble_eq_true rfl) ?_
    show jv_V E 14 [some (.ref 0), some (.int p1), some (.int p2)] [] q3
    refine jv_aload_n (x := 0) (pc' := 15) hE dX7_distance_14 rfl 0 rfl rfl ?_
    refine jv_get (v := .ref 8) (pc' := 18) hE dX7_distance_15 rfl lF_X7_21 rfl rfl rfl ?_
    refine jv_iload_n (x := p1) (pc' := 19) hE dX7_distance_18 rfl 1 rfl rfl ?_
    refine jv_callV (pc' := 22) (o := some (.int (f_X2_ofNode 9 q3 p1))) (σ' := q3) hE dX7_distance_19 rfl lV_X7_136 (ok_X2_ofNode_8 rfl) rfl rfl rfl (by decide) rfl (Nat.le_of_ble_eq_true rfl) ?_
    show jv_V E 22 [some (.ref 0), some (.int p1), some (.int p2)] [.int (f_X2_ofNode 9 q3 p1)] q3
    rcases jv_xe_or h with ⟨e5, hq4, h⟩ | ⟨q4, hq4, h⟩
    · cases h
      exact jv_callSt hE hT dX7_distance_22 lS_X7_139 (okt_X7_requireWay hl0 hq4) hR rfl (by decide) rfl (Nat.le_of_ble_eq_true rfl)
    · refine jv_callS (pc' := 25) (o := some (.int q4)) (σ' := q3) hE dX7_distance_22 rfl lS_X7_139 (ok_X7_requireWay hq4) rfl (by decide) rfl (Nat.le_of_ble_eq_true rfl) ?_
      show jv_V E 25 [some (.ref 0), some (.int p1), some (.int p2)] [.int q4] q3
      cases h
noncomputable def f_X7_allowedLength (σ : jv_S) (p1 : Int32) (p2 : Int32) : Option (Except String Int32 × jv_S) := jv_xe (f_X7_requireNodes σ p1 p2) (fun e2 => some (.error e2, σ)) (fun q1 => jv_bd (f_X0_find σ p1 p2) (fun q3 => jv_xe (f_X7_requireWay q3.2 q3.1) (fun e5 => some (.error e5, q3.2)) (fun q4 => some (.ok q4, q3.2))))
set_option maxRecDepth 100000 in
set_option maxHeartbeats 4000000 in
theorem ok_X7_allowedLength {G : jv_G} {l : Launch} {σ : jv_S} {p1 : Int32} {p2 : Int32} {r : Int32} {τ : jv_S} (h : f_X7_allowedLength σ p1 p2 = some (.ok r, τ)) : jv_Cn G l 7 M_X7_allowedLength [.ref 0, .int p1, .int p2] σ (some (.int r)) τ := by
  refine jv_of (L0 := [some (.ref 0), some (.int p1), some (.int p2)]) (by decide +kernel) (Nat.le_of_ble_eq_true rfl) rfl (jv_okI _) (fun E e1 e2 hE hret => ?_)
  unfold f_X7_allowedLength at h
  refine jv_aload_n (x := 0) (pc' := 1) hE dX7_allowedLength_0 rfl 0 rfl rfl ?_
  refine jv_iload_n (x := p1) (pc' := 2) hE dX7_allowedLength_1 rfl 1 rfl rfl ?_
  refine jv_iload_n (x := p2) (pc' := 3) hE dX7_allowedLength_2 rfl 2 rfl rfl ?_
  rcases jv_xe_or h with ⟨e2, hq1, h⟩ | ⟨q1, hq1, h⟩
  · cases h
  · refine jv_callV (pc' := 6) (o := none) (σ' := σ) hE dX7_allowedLength_3 rfl lV_X7_101 (ok_X7_requireNodes hq1) rfl rfl rfl (by decide) rfl (Nat.le_of_ble_eq_true rfl) ?_
    show jv_V E 6 [some (.ref 0), some (.int p1), some (.int p2)] [] σ
    refine jv_aload_n (x := 0) (pc' := 7) hE dX7_allowedLength_6 rfl 0 rfl rfl ?_
    refine jv_get (v := .ref 32) (pc' := 10) hE dX7_allowedLength_7 rfl lF_X7_56 rfl rfl rfl ?_
    refine jv_iload_n (x := p1) (pc' := 11) hE dX7_allowedLength_10 rfl 1 rfl rfl ?_
    refine jv_iload_n (x := p2) (pc' := 12) hE dX7_allowedLength_11 rfl 2 rfl rfl ?_
    obtain ⟨q3, hq3, h⟩ := jv_bd_some h
    refine jv_callV (pc' := 15) (o := some (.int q3.1)) (σ' := q3.2) hE dX7_allowedLength_12 rfl lV_X7_204 (ok_X0_find hq3) rfl rfl rfl (by decide) rfl (Nat.le_of_ble_eq_true rfl) ?_
    show jv_V E 15 [some (.ref 0), some (.int p1), some (.int p2)] [.int q3.1] q3.2
    rcases jv_xe_or h with ⟨e5, hq4, h⟩ | ⟨q4, hq4, h⟩
    · cases h
    · refine jv_callS (pc' := 18) (o := some (.int q4)) (σ' := q3.2) hE dX7_allowedLength_15 rfl lS_X7_139 (ok_X7_requireWay hq4) rfl (by decide) rfl (Nat.le_of_ble_eq_true rfl) ?_
      show jv_V E 18 [some (.ref 0), some (.int p1), some (.int p2)] [.int q4] q3.2
      cases h
      exact hret _ _ dX7_allowedLength_18
set_option maxRecDepth 100000 in
set_option maxHeartbeats 4000000 in
theorem okt_X7_allowedLength {G : jv_G} {l : Launch} (hl0 : l.stackTraces = false) {σ : jv_S} {p1 : Int32} {p2 : Int32} {E0 : String} {τ : jv_S} (h : f_X7_allowedLength σ p1 p2 = some (.error E0, τ)) : jv_Ct G l 7 M_X7_allowedLength [.ref 0, .int p1, .int p2] σ E0 τ := by
  refine jv_oft (L0 := [some (.ref 0), some (.int p1), some (.int p2)]) hl0 (by decide +kernel) (Nat.le_of_ble_eq_true rfl) rfl (fun E e1 e2 hE hR hT => ?_)
  subst e1; subst e2
  unfold f_X7_allowedLength at h
  refine jv_aload_n (x := 0) (pc' := 1) hE dX7_allowedLength_0 rfl 0 rfl rfl ?_
  refine jv_iload_n (x := p1) (pc' := 2) hE dX7_allowedLength_1 rfl 1 rfl rfl ?_
  refine jv_iload_n (x := p2) (pc' := 3) hE dX7_allowedLength_2 rfl 2 rfl rfl ?_
  rcases jv_xe_or h with ⟨e2, hq1, h⟩ | ⟨q1, hq1, h⟩
  · cases h
    exact jv_callVt hE hT dX7_allowedLength_3 lV_X7_101 (okt_X7_requireNodes hl0 hq1) hR rfl rfl rfl (by decide) rfl (Nat.le_of_ble_eq_true rfl)
  · refine jv_callV (pc' := 6) (o := none) (σ' := σ) hE dX7_allowedLength_3 rfl lV_X7_101 (ok_X7_requireNodes hq1) rfl rfl rfl (by decide) rfl (Nat.le_of_ble_eq_true rfl) ?_
    show jv_V E 6 [some (.ref 0), some (.int p1), some (.int p2)] [] σ
    refine jv_aload_n (x := 0) (pc' := 7) hE dX7_allowedLength_6 rfl 0 rfl rfl ?_
    refine jv_get (v := .ref 32) (pc' := 10) hE dX7_allowedLength_7 rfl lF_X7_56 rfl rfl rfl ?_
    refine jv_iload_n (x := p1) (pc' := 11) hE dX7_allowedLength_10 rfl 1 rfl rfl ?_
    refine jv_iload_n (x := p2) (pc' := 12) hE dX7_allowedLength_11 rfl 2 rfl rfl ?_
    obtain ⟨q3, hq3, h⟩ := jv_bd_some h
    refine jv_callV (pc' := 15) (o := some (.int q3.1)) (σ' := q3.2) hE dX7_allowedLength_12 rfl lV_X7_204 (ok_X0_find hq3) rfl rfl rfl (by decide) rfl (Nat.le_of_ble_eq_true rfl) ?_
    show jv_V E 15 [some (.ref 0), some (.int p1), some (.int p2)] [.int q3.1] q3.2
    rcases jv_xe_or h with ⟨e5, hq4, h⟩ | ⟨q4, hq4, h⟩
    · cases h
      exact jv_callSt hE hT dX7_allowedLength_15 lS_X7_139 (okt_X7_requireWay hl0 hq4) hR rfl (by decide) rfl (Nat.le_of_ble_eq_true rfl)
    · refine jv_callS (pc' := 18) (o := some (.int q4)) (σ' := q3.2) hE dX7_allowedLength_15 rfl lS_X7_139 (ok_X7_requireWay hq4) rfl (by decide) rfl (Nat.le_of_ble_eq_true rfl) ?_
      show jv_V E 18 [some (.ref 0), some (.int p1), some (.int p2)] [.int q4] q3.2
      cases h
noncomputable def f_X7_allowedEdges (σ : jv_S) (p1 : Int32) (p2 : Int32) : Option (Except String Int32 × jv_S) := jv_xe (f_X7_requireNodes σ p1 p2) (fun e2 => some (.error e2, σ)) (fun q1 => jv_bd (f_X0_find σ p1 p2) (fun q3 => jv_xe (f_X7_requireWay q3.2 q3.1) (fun e5 => some (.error e5, q3.2)) (fun q4 => some (.ok (f_X0_foundSize q3.2), q3.2))))
set_option maxRecDepth 100000 in
set_option maxHeartbeats 4000000 in
theorem ok_X7_allowedEdges {G : jv_G} {l : Launch} {σ : jv_S} {p1 : Int32} {p2 : Int32} {r : Int32} {τ : jv_S} (h : f_X7_allowedEdges σ p1 p2 = some (.ok r, τ)) : jv_Cn G l 7 M_X7_allowedEdges [.ref 0, .int p1, .int p2] σ (some (.int r)) τ := by
  refine jv_of (L0 := [some (.ref 0), some (.int p1), some (.int p2)]) (by decide +kernel) (Nat.le_of_ble_eq_true rfl) rfl (jv_okI _) (fun E e1 e2 hE hret => ?_)
  unfold f_X7_allowedEdges at h
  refine jv_aload_n (x := 0) (pc' := 1) hE dX7_allowedEdges_0 rfl 0 rfl rfl ?_
  refine jv_iload_n (x := p1) (pc' := 2) hE dX7_allowedEdges_1 rfl 1 rfl rfl ?_
  refine jv_iload_n (x := p2) (pc' := 3) hE dX7_allowedEdges_2 rfl 2 rfl rfl ?_
  rcases jv_xe_or h with ⟨e2, hq1, h⟩ | ⟨q1, hq1, h⟩
  · cases h
  · refine jv_callV (pc' := 6) (o := none) (σ' := σ) hE dX7_allowedEdges_3 rfl lV_X7_101 (ok_X7_requireNodes hq1) rfl rfl rfl (by decide) rfl (Nat.le_of_ble_eq_true rfl) ?_
    show jv_V E 6 [some (.ref 0), some (.int p1), some (.int p2)] [] σ
    refine jv_aload_n (x := 0) (pc' := 7) hE dX7_allowedEdges_6 rfl 0 rfl rfl ?_
    refine jv_get (v := .ref 32) (pc' := 10) hE dX7_allowedEdges_7 rfl lF_X7_56 rfl rfl rfl ?_
    refine jv_iload_n (x := p1) (pc' := 11) hE dX7_allowedEdges_10 rfl 1 rfl rfl ?_
    refine jv_iload_n (x := p2) (pc' := 12) hE dX7_allowedEdges_11 rfl 2 rfl rfl ?_
    obtain ⟨q3, hq3, h⟩ := jv_bd_some h
    refine jv_callV (pc' := 15) (o := some (.int q3.1)) (σ' := q3.2) hE dX7_allowedEdges_12 rfl lV_X7_204 (ok_X0_find hq3) rfl rfl rfl (by decide) rfl (Nat.le_of_ble_eq_true rfl) ?_
    show jv_V E 15 [some (.ref 0), some (.int p1), some (.int p2)] [.int q3.1] q3.2
    rcases jv_xe_or h with ⟨e5, hq4, h⟩ | ⟨q4, hq4, h⟩
    · cases h
    · refine jv_callS (pc' := 18) (o := some (.int q4)) (σ' := q3.2) hE dX7_allowedEdges_15 rfl lS_X7_139 (ok_X7_requireWay hq4) rfl (by decide) rfl (Nat.le_of_ble_eq_true rfl) ?_
      show jv_V E 18 [some (.ref 0), some (.int p1), some (.int p2)] [.int q4] q3.2
      refine jv_pop (pc' := 19) hE dX7_allowedEdges_18 rfl rfl ?_
      refine jv_aload_n (x := 0) (pc' := 20) hE dX7_allowedEdges_19 rfl 0 rfl rfl ?_
      refine jv_get (v := .ref 32) (pc' := 23) hE dX7_allowedEdges_20 rfl lF_X7_56 rfl rfl rfl ?_
      refine jv_callV (pc' := 26) (o := some (.int (f_X0_foundSize q3.2))) (σ' := q3.2) hE dX7_allowedEdges_23 rfl lV_X7_207 (ok_X0_foundSize rfl) rfl rfl rfl (by decide) rfl (Nat.le_of_ble_eq_true rfl) ?_
      show jv_V E 26 [some (.ref 0), some (.int p1), some (.int p2)] [.int (f_X0_foundSize q3.2)] q3.2
      cases h
      exact hret _ _ dX7_allowedEdges_26
set_option maxRecDepth 100000 in
set_option maxHeartbeats 4000000 in
theorem okt_X7_allowedEdges {G : jv_G} {l : Launch} (hl0 : l.stackTraces = false) {σ : jv_S} {p1 : Int32} {p2 : Int32} {E0 : String} {τ : jv_S} (h : f_X7_allowedEdges σ p1 p2 = some (.error E0, τ)) : jv_Ct G l 7 M_X7_allowedEdges [.ref 0, .int p1, .int p2] σ E0 τ := by
  refine jv_oft (L0 := [some (.ref 0), some (.int p1), some (.int p2)]) hl0 (by decide +kernel) (Nat.le_of_ble_eq_true rfl) rfl (fun E e1 e2 hE hR hT => ?_)
  subst e1; subst e2
  unfold f_X7_allowedEdges at h
  refine jv_aload_n (x := 0) (pc' := 1) hE dX7_allowedEdges_0 rfl 0 rfl rfl ?_
  refine jv_iload_n (x := p1) (pc' := 2) hE dX7_allowedEdges_1 rfl 1 rfl rfl ?_
  refine jv_iload_n (x := p2) (pc' := 3) hE dX7_allowedEdges_2 rfl 2 rfl rfl ?_
  rcases jv_xe_or h with ⟨e2, hq1, h⟩ | ⟨q1, hq1, h⟩
  · cases h
    exact jv_callVt hE hT dX7_allowedEdges_3 lV_X7_101 (okt_X7_requireNodes hl0 hq1) hR rfl rfl rfl (by decide) rfl (Nat.le_of_ble_eq_true rfl)
  · refine jv_callV (pc' := 6) (o := none) (σ' := σ) hE dX7_allowedEdges_3 rfl lV_X7_101 (ok_X7_requireNodes hq1) rfl rfl rfl (by decide) rfl (Nat.le_of_ble_eq_true rfl) ?_
    show jv_V E 6 [some (.ref 0), some (.int p1), some (.int p2)] [] σ
    refine jv_aload_n (x := 0) (pc' := 7) hE dX7_allowedEdges_6 rfl 0 rfl rfl ?_
    refine jv_get (v := .ref 32) (pc' := 10) hE dX7_allowedEdges_7 rfl lF_X7_56 rfl rfl rfl ?_
    refine jv_iload_n (x := p1) (pc' := 11) hE dX7_allowedEdges_10 rfl 1 rfl rfl ?_
    refine jv_iload_n (x := p2) (pc' := 12) hE dX7_allowedEdges_11 rfl 2 rfl rfl ?_
    obtain ⟨q3, hq3, h⟩ := jv_bd_some h
    refine jv_callV (pc' := 15) (o := some (.int q3.1)) (σ' := q3.2) hE dX7_allowedEdges_12 rfl lV_X7_204 (ok_X0_find hq3) rfl rfl rfl (by decide) rfl (Nat.le_of_ble_eq_true rfl) ?_
    show jv_V E 15 [some (.ref 0), some (.int p1), some (.int p2)] [.int q3.1] q3.2
    rcases jv_xe_or h with ⟨e5, hq4, h⟩ | ⟨q4, hq4, h⟩
    · cases h
      exact jv_callSt hE hT dX7_allowedEdges_15 lS_X7_139 (okt_X7_requireWay hl0 hq4) hR rfl (by decide) rfl (Nat.le_of_ble_eq_true rfl)
    · refine jv_callS (pc' := 18) (o := some (.int q4)) (σ' := q3.2) hE dX7_allowedEdges_15 rfl lS_X7_139 (ok_X7_requireWay hq4) rfl (by decide) rfl (Nat.le_of_ble_eq_true rfl) ?_
      show jv_V E 18 [some (.ref 0), some (.int p1), some (.int p2)] [.int q4] q3.2
      refine jv_pop (pc' := 19) hE dX7_allowedEdges_18 rfl rfl ?_
      refine jv_aload_n (x := 0) (pc' := 20) hE dX7_allowedEdges_19 rfl 0 rfl rfl ?_
      refine jv_get (v := .ref 32) (pc' := 23) hE dX7_allowedEdges_20 rfl lF_X7_56 rfl rfl rfl ?_
      refine jv_callV (pc' := 26) (o := some (.int (f_X0_foundSize q3.2))) (σ' := q3.2) hE dX7_allowedEdges_23 rfl lV_X7_207 (ok_X0_foundSize rfl) rfl rfl rfl (by decide) rfl (Nat.le_of_ble_eq_true rfl) ?_
      show jv_V E 26 [some (.ref 0), some (.int p1), some (.int p2)] [.int (f_X0_foundSize q3.2)] q3.2
      cases h
noncomputable def f_X7_allowedEdge (σ : jv_S) (p1 : Int32) (p2 : Int32) (p3 : Int32) : Option (Except String Int32 × jv_S) := jv_xe (f_X7_requireNodes σ p1 p2) (fun e2 => some (.error e2, σ)) (fun q1 => jv_bd (f_X0_find σ p1 p2) (fun q3 => jv_xe (f_X7_requireWay q3.2 q3.1) (fun e5 => some (.error e5, q3.2)) (fun q4 => jv_xe (f_X7_requireListed q3.2 (f_X0_foundEdge q3.2 p3)) (fun e7 => some (.error e7, q3.2)) (fun q6 => some (.ok q6, q3.2)))))
set_option maxRecDepth 100000 in
set_option maxHeartbeats 4000000 in
theorem ok_X7_allowedEdge {G : jv_G} {l : Launch} {σ : jv_S} {p1 : Int32} {p2 : Int32} {p3 : Int32} {r : Int32} {τ : jv_S} (h : f_X7_allowedEdge σ p1 p2 p3 = some (.ok r, τ)) : jv_Cn G l 7 M_X7_allowedEdge [.ref 0, .int p1, .int p2, .int p3] σ (some (.int r)) τ := by
  refine jv_of (L0 := [some (.ref 0), some (.int p1), some (.int p2), some (.int p3)]) (by decide +kernel) (Nat.le_of_ble_eq_true rfl) rfl (jv_okI _) (fun E e1 e2 hE hret => ?_)
  unfold f_X7_allowedEdge at h
  refine jv_aload_n (x := 0) (pc' := 1) hE dX7_allowedEdge_0 rfl 0 rfl rfl ?_
  refine jv_iload_n (x := p1) (pc' := 2) hE dX7_allowedEdge_1 rfl 1 rfl rfl ?_
  refine jv_iload_n (x := p2) (pc' := 3) hE dX7_allowedEdge_2 rfl 2 rfl rfl ?_
  rcases jv_xe_or h with ⟨e2, hq1, h⟩ | ⟨q1, hq1, h⟩
  · cases h
  · refine jv_callV (pc' := 6) (o := none) (σ' := σ) hE dX7_allowedEdge_3 rfl lV_X7_101 (ok_X7_requireNodes hq1) rfl rfl rfl (by decide) rfl (Nat.le_of_ble_eq_true rfl) ?_
    show jv_V E 6 [some (.ref 0), some (.int p1), some (.int p2), some (.int p3)] [] σ
    refine jv_aload_n (x := 0) (pc' := 7) hE dX7_allowedEdge_6 rfl 0 rfl rfl ?_
    refine jv_get (v := .ref 32) (pc' := 10) hE dX7_allowedEdge_7 rfl lF_X7_56 rfl rfl rfl ?_
    refine jv_iload_n (x := p1) (pc' := 11) hE dX7_allowedEdge_10 rfl 1 rfl rfl ?_
    refine jv_iload_n (x := p2) (pc' := 12) hE dX7_allowedEdge_11 rfl 2 rfl rfl ?_
    obtain ⟨q3, hq3, h⟩ := jv_bd_some h
    refine jv_callV (pc' := 15) (o := some (.int q3.1)) (σ' := q3.2) hE dX7_allowedEdge_12 rfl lV_X7_204 (ok_X0_find hq3) rfl rfl rfl (by decide) rfl (Nat.le_of_ble_eq_true rfl) ?_
    show jv_V E 15 [some (.ref 0), some (.int p1), some (.int p2), some (.int p3)] [.int q3.1] q3.2
    rcases jv_xe_or h with ⟨e5, hq4, h⟩ | ⟨q4, hq4, h⟩
    · cases h
    · refine jv_callS (pc' := 18) (o := some (.int q4)) (σ' := q3.2) hE dX7_allowedEdge_15 rfl lS_X7_139 (ok_X7_requireWay hq4) rfl (by decide) rfl (Nat.le_of_ble_eq_true rfl) ?_
      show jv_V E 18 [some (.ref 0), some (.int p1), some (.int p2), some (.int p3)] [.int q4] q3.2
      refine jv_pop (pc' := 19) hE dX7_allowedEdge_18 rfl rfl ?_
      refine jv_aload_n (x := 0) (pc' := 20) hE dX7_allowedEdge_19 rfl 0 rfl rfl ?_
      refine jv_get (v := .ref 32) (pc' := 23) hE dX7_allowedEdge_20 rfl lF_X7_56 rfl rfl rfl ?_
      refine jv_iload_n (x := p3) (pc' := 24) hE dX7_allowedEdge_23 rfl 3 rfl rfl ?_
      refine jv_callV (pc' := 27) (o := some (.int (f_X0_foundEdge q3.2 p3))) (σ' := q3.2) hE dX7_allowedEdge_24 rfl lV_X7_210 (ok_X0_foundEdge rfl) rfl rfl rfl (by decide) rfl (Nat.le_of_ble_eq_true rfl) ?_
      show jv_V E 27 [some (.ref 0), some (.int p1), some (.int p2), some (.int p3)] [.int (f_X0_foundEdge q3.2 p3)] q3.2
      rcases jv_xe_or h with ⟨e7, hq6, h⟩ | ⟨q6, hq6, h⟩
      · cases h
      · refine jv_callS (pc' := 30) (o := some (.int q6)) (σ' := q3.2) hE dX7_allowedEdge_27 rfl lS_X7_176 (ok_X7_requireListed hq6) rfl (by decide) rfl (Nat.le_of_ble_eq_true rfl) ?_
        show jv_V E 30 [some (.ref 0), some (.int p1), some (.int p2), some (.int p3)] [.int q6] q3.2
        cases h
        exact hret _ _ dX7_allowedEdge_30
set_option maxRecDepth 100000 in
set_option maxHeartbeats 4000000 in
theorem okt_X7_allowedEdge {G : jv_G} {l : Launch} (hl0 : l.stackTraces = false) {σ : jv_S} {p1 : Int32} {p2 : Int32} {p3 : Int32} {E0 : String} {τ : jv_S} (h : f_X7_allowedEdge σ p1 p2 p3 = some (.error E0, τ)) : jv_Ct G l 7 M_X7_allowedEdge [.ref 0, .int p1, .int p2, .int p3] σ E0 τ := by
  refine jv_oft (L0 := [some (.ref 0), some (.int p1), some (.int p2), some (.int p3)]) hl0 (by decide +kernel) (Nat.le_of_ble_eq_true rfl) rfl (fun E e1 e2 hE hR hT => ?_)
  subst e1; subst e2
  unfold f_X7_allowedEdge at h
  refine jv_aload_n (x := 0) (pc' := 1) hE dX7_allowedEdge_0 rfl 0 rfl rfl ?_
  refine jv_iload_n (x := p1) (pc' := 2) hE dX7_allowedEdge_1 rfl 1 rfl rfl ?_
  refine jv_iload_n (x := p2) (pc' := 3) hE dX7_allowedEdge_2 rfl 2 rfl rfl ?_
  rcases jv_xe_or h with ⟨e2, hq1, h⟩ | ⟨q1, hq1, h⟩
  · cases h
    exact jv_callVt hE hT dX7_allowedEdge_3 lV_X7_101 (okt_X7_requireNodes hl0 hq1) hR rfl rfl rfl (by decide) rfl (Nat.le_of_ble_eq_true rfl)
  · refine jv_callV (pc' := 6) (o := none) (σ' := σ) hE dX7_allowedEdge_3 rfl lV_X7_101 (ok_X7_requireNodes hq1) rfl rfl rfl (by decide) rfl (Nat.le_of_ble_eq_true rfl) ?_
    show jv_V E 6 [some (.ref 0), some (.int p1), some (.int p2), some (.int p3)] [] σ
    refine jv_aload_n (x := 0) (pc' := 7) hE dX7_allowedEdge_6 rfl 0 rfl rfl ?_
    refine jv_get (v := .ref 32) (pc' := 10) hE dX7_allowedEdge_7 rfl lF_X7_56 rfl rfl rfl ?_
    refine jv_iload_n (x := p1) (pc' := 11) hE dX7_allowedEdge_10 rfl 1 rfl rfl ?_
    refine jv_iload_n (x := p2) (pc' := 12) hE dX7_allowedEdge_11 rfl 2 rfl rfl ?_
    obtain ⟨q3, hq3, h⟩ := jv_bd_some h
    refine jv_callV (pc' := 15) (o := some (.int q3.1)) (σ' := q3.2) hE dX7_allowedEdge_12 rfl lV_X7_204 (ok_X0_find hq3) rfl rfl rfl (by decide) rfl (Nat.le_of_ble_eq_true rfl) ?_
    show jv_V E 15 [some (.ref 0), some (.int p1), some (.int p2), some (.int p3)] [.int q3.1] q3.2
    rcases jv_xe_or h with ⟨e5, hq4, h⟩ | ⟨q4, hq4, h⟩
    · cases h
      exact jv_callSt hE hT dX7_allowedEdge_15 lS_X7_139 (okt_X7_requireWay hl0 hq4) hR rfl (by decide) rfl (Nat.le_of_ble_eq_true rfl)
    · refine jv_callS (pc' := 18) (o := some (.int q4)) (σ' := q3.2) hE dX7_allowedEdge_15 rfl lS_X7_139 (ok_X7_requireWay hq4) rfl (by decide) rfl (Nat.le_of_ble_eq_true rfl) ?_
      show jv_V E 18 [some (.ref 0), some (.int p1), some (.int p2), some (.int p3)] [.int q4] q3.2
      refine jv_pop (pc' := 19) hE dX7_allowedEdge_18 rfl rfl ?_
      refine jv_aload_n (x := 0) (pc' := 20) hE dX7_allowedEdge_19 rfl 0 rfl rfl ?_
      refine jv_get (v := .ref 32) (pc' := 23) hE dX7_allowedEdge_20 rfl lF_X7_56 rfl rfl rfl ?_
      refine jv_iload_n (x := p3) (pc' := 24) hE dX7_allowedEdge_23 rfl 3 rfl rfl ?_
      refine jv_callV (pc' := 27) (o := some (.int (f_X0_foundEdge q3.2 p3))) (σ' := q3.2) hE dX7_allowedEdge_24 rfl lV_X7_210 (ok_X0_foundEdge rfl) rfl rfl rfl (by decide) rfl (Nat.le_of_ble_eq_true rfl) ?_
      show jv_V E 27 [some (.ref 0), some (.int p1), some (.int p2), some (.int p3)] [.int (f_X0_foundEdge q3.2 p3)] q3.2
      rcases jv_xe_or h with ⟨e7, hq6, h⟩ | ⟨q6, hq6, h⟩
      · cases h
        exact jv_callSt hE hT dX7_allowedEdge_27 lS_X7_176 (okt_X7_requireListed hl0 hq6) hR rfl (by decide) rfl (Nat.le_of_ble_eq_true rfl)
      · refine jv_callS (pc' := 30) (o := some (.int q6)) (σ' := q3.2) hE dX7_allowedEdge_27 rfl lS_X7_176 (ok_X7_requireListed hq6) rfl (by decide) rfl (Nat.le_of_ble_eq_true rfl) ?_
        show jv_V E 30 [some (.ref 0), some (.int p1), some (.int p2), some (.int p3)] [.int q6] q3.2
        cases h
noncomputable def f_X7_disjointLength (σ : jv_S) (p1 : Int32) (p2 : Int32) (p3 : Int32) (p4 : Int32) : Option (Except String Int32 × jv_S) := jv_xe (f_X7_requireTwoNodes σ p1 p2) (fun e2 => some (.error e2, σ)) (fun q1 => jv_xe (f_X7_requireRange σ p3 (1 : Int32) (4 : Int32)) (fun e4 => some (.error e4, σ)) (fun q3 => jv_bd (f_X1_leastLength σ p1 p2 p3 p4) (fun q5 => jv_xe (f_X7_requireWay q5.2 q5.1) (fun e7 => some (.error e7, q5.2)) (fun q6 => some (.ok q6, q5.2)))))
set_option maxRecDepth 100000 in
set_option maxHeartbeats 4000000 in
theorem ok_X7_disjointLength {G : jv_G} {l : Launch} {σ : jv_S} {p1 : Int32} {p2 : Int32} {p3 : Int32} {p4 : Int32} {r : Int32} {τ : jv_S} (h : f_X7_disjointLength σ p1 p2 p3 p4 = some (.ok r, τ)) : jv_Cn G l 6 M_X7_disjointLength [.ref 0, .int p1, .int p2, .int p3, .int p4] σ (some (.int r)) τ := by
  refine jv_of (L0 := [some (.ref 0), some (.int p1), some (.int p2), some (.int p3), some (.int p4)]) (by decide +kernel) (Nat.le_of_ble_eq_true rfl) rfl (jv_okI _) (fun E e1 e2 hE hret => ?_)
  unfold f_X7_disjointLength at h
  refine jv_aload_n (x := 0) (pc' := 1) hE dX7_disjointLength_0 rfl 0 rfl rfl ?_
  refine jv_iload_n (x := p1) (pc' := 2) hE dX7_disjointLength_1 rfl 1 rfl rfl ?_
  refine jv_iload_n (x := p2) (pc' := 3) hE dX7_disjointLength_2 rfl 2 rfl rfl ?_
  rcases jv_xe_or h with ⟨e2, hq1, h⟩ | ⟨q1, hq1, h⟩
  · cases h
  · refine jv_callV (pc' := 6) (o := none) (σ' := σ) hE dX7_disjointLength_3 rfl lV_X7_71 (ok_X7_requireTwoNodes hq1) rfl rfl rfl (by decide) rfl (Nat.le_of_ble_eq_true rfl) ?_
    show jv_V E 6 [some (.ref 0), some (.int p1), some (.int p2), some (.int p3), some (.int p4)] [] σ
    refine jv_iload_n (x := p3) (pc' := 7) hE dX7_disjointLength_6 rfl 3 rfl rfl ?_
    refine jv_iconst (v := (1 : Int32)) (pc' := 8) hE dX7_disjointLength_7 rfl (by decide) ?_
    refine jv_iconst (v := (4 : Int32)) (pc' := 9) hE dX7_disjointLength_8 rfl (by decide) ?_
    rcases jv_xe_or h with ⟨e4, hq3, h⟩ | ⟨q3, hq3, h⟩
    · cases h
    · refine jv_callS (pc' := 12) (o := none) (σ' := σ) hE dX7_disjointLength_9 rfl lS_X7_60 (ok_X7_requireRange hq3) rfl (by decide) rfl (Nat.le_of_ble_eq_true rfl) ?_
      show jv_V E 12 [some (.ref 0), some (.int p1), some (.int p2), some (.int p3), some (.int p4)] [] σ
      refine jv_aload_n (x := 0) (pc' := 13) hE dX7_disjointLength_12 rfl 0 rfl rfl ?_
      refine jv_get (v := .ref 24) (pc' := 16) hE dX7_disjointLength_13 rfl lF_X7_49 rfl rfl rfl ?_
      refine jv_iload_n (x := p1) (pc' := 17) hE dX7_disjointLength_16 rfl 1 rfl rfl ?_
      refine jv_iload_n (x := p2) (pc' := 18) hE dX7_disjointLength_17 rfl 2 rfl rfl ?_
      refine jv_iload_n (x := p3) (pc' := 19) hE dX7_disjointLength_18 rfl 3 rfl rfl ?_
      refine jv_iload (x := p4) (pc' := 21) hE dX7_disjointLength_19 rfl rfl ?_
      obtain ⟨q5, hq5, h⟩ := jv_bd_some h
      refine jv_callV (pc' := 24) (o := some (.int q5.1)) (σ' := q5.2) hE dX7_disjointLength_21 rfl lV_X7_200 (ok_X1_leastLength hq5) rfl rfl rfl (by decide) rfl (Nat.le_of_ble_eq_true rfl) ?_
      show jv_V E 24 [some (.ref 0), some (.int p1), some (.int p2), some (.int p3), some (.int p4)] [.int q5.1] q5.2
      rcases jv_xe_or h with ⟨e7, hq6, h⟩ | ⟨q6, hq6, h⟩
      · cases h
      · refine jv_callS (pc' := 27) (o := some (.int q6)) (σ' := q5.2) hE dX7_disjointLength_24 rfl lS_X7_139 (ok_X7_requireWay hq6) rfl (by decide) rfl (Nat.le_of_ble_eq_true rfl) ?_
        show jv_V E 27 [some (.ref 0), some (.int p1), some (.int p2), some (.int p3), some (.int p4)] [.int q6] q5.2
        cases h
        exact hret _ _ dX7_disjointLength_27
set_option maxRecDepth 100000 in
set_option maxHeartbeats 4000000 in
theorem okt_X7_disjointLength {G : jv_G} {l : Launch} (hl0 : l.stackTraces = false) {σ : jv_S} {p1 : Int32} {p2 : Int32} {p3 : Int32} {p4 : Int32} {E0 : String} {τ : jv_S} (h : f_X7_disjointLength σ p1 p2 p3 p4 = some (.error E0, τ)) : jv_Ct G l 6 M_X7_disjointLength [.ref 0, .int p1, .int p2, .int p3, .int p4] σ E0 τ := by
  refine jv_oft (L0 := [some (.ref 0), some (.int p1), some (.int p2), some (.int p3), some (.int p4)]) hl0 (by decide +kernel) (Nat.le_of_ble_eq_true rfl) rfl (fun E e1 e2 hE hR hT => ?_)
  subst e1; subst e2
  unfold f_X7_disjointLength at h
  refine jv_aload_n (x := 0) (pc' := 1) hE dX7_disjointLength_0 rfl 0 rfl rfl ?_
  refine jv_iload_n (x := p1) (pc' := 2) hE dX7_disjointLength_1 rfl 1 rfl rfl ?_
  refine jv_iload_n (x := p2) (pc' := 3) hE dX7_disjointLength_2 rfl 2 rfl rfl ?_
  rcases jv_xe_or h with ⟨e2, hq1, h⟩ | ⟨q1, hq1, h⟩
  · cases h
    exact jv_callVt hE hT dX7_disjointLength_3 lV_X7_71 (okt_X7_requireTwoNodes hl0 hq1) hR rfl rfl rfl (by decide) rfl (Nat.le_of_ble_eq_true rfl)
  · refine jv_callV (pc' := 6) (o := none) (σ' := σ) hE dX7_disjointLength_3 rfl lV_X7_71 (ok_X7_requireTwoNodes hq1) rfl rfl rfl (by decide) rfl (Nat.le_of_ble_eq_true rfl) ?_
    show jv_V E 6 [some (.ref 0), some (.int p1), some (.int p2), some (.int p3), some (.int p4)] [] σ
    refine jv_iload_n (x := p3) (pc' := 7) hE dX7_disjointLength_6 rfl 3 rfl rfl ?_
    refine jv_iconst (v := (1 : Int32)) (pc' := 8) hE dX7_disjointLength_7 rfl (by decide) ?_
    refine jv_iconst (v := (4 : Int32)) (pc' := 9) hE dX7_disjointLength_8 rfl (by decide) ?_
    rcases jv_xe_or h with ⟨e4, hq3, h⟩ | ⟨q3, hq3, h⟩
    · cases h
      exact jv_callSt hE hT dX7_disjointLength_9 lS_X7_60 (okt_X7_requireRange hl0 hq3) hR rfl (by decide) rfl (Nat.le_of_ble_eq_true rfl)
    · refine jv_callS (pc' := 12) (o := none) (σ' := σ) hE dX7_disjointLength_9 rfl lS_X7_60 (ok_X7_requireRange hq3) rfl (by decide) rfl (Nat.le_of_ble_eq_true rfl) ?_
      show jv_V E 12 [some (.ref 0), some (.int p1), some (.int p2), some (.int p3), some (.int p4)] [] σ
      refine jv_aload_n (x := 0) (pc' := 13) hE dX7_disjointLength_12 rfl 0 rfl rfl ?_
      refine jv_get (v := .ref 24) (pc' := 16) hE dX7_disjointLength_13 rfl lF_X7_49 rfl rfl rfl ?_
      refine jv_iload_n (x := p1) (pc' := 17) hE dX7_disjointLength_16 rfl 1 rfl rfl ?_
      refine jv_iload_n (x := p2) (pc' := 18) hE dX7_disjointLength_17 rfl 2 rfl rfl ?_
      refine jv_iload_n (x := p3) (pc' := 19) hE dX7_disjointLength_18 rfl 3 rfl rfl ?_
      refine jv_iload (x := p4) (pc' := 21) hE dX7_disjointLength_19 rfl rfl ?_
      obtain ⟨q5, hq5, h⟩ := jv_bd_some h
      refine jv_callV (pc' := 24) (o := some (.int q5.1)) (σ' := q5.2) hE dX7_disjointLength_21 rfl lV_X7_200 (ok_X1_leastLength hq5) rfl rfl rfl (by decide) rfl (Nat.le_of_ble_eq_true rfl) ?_
      show jv_V E 24 [some (.ref 0), some (.int p1), some (.int p2), some (.int p3), some (.int p4)] [.int q5.1] q5.2
      rcases jv_xe_or h with ⟨e7, hq6, h⟩ | ⟨q6, hq6, h⟩
      · cases h
        exact jv_callSt hE hT dX7_disjointLength_24 lS_X7_139 (okt_X7_requireWay hl0 hq6) hR rfl (by decide) rfl (Nat.le_of_ble_eq_true rfl)
      · refine jv_callS (pc' := 27) (o := some (.int q6)) (σ' := q5.2) hE dX7_disjointLength_24 rfl lS_X7_139 (ok_X7_requireWay hq6) rfl (by decide) rfl (Nat.le_of_ble_eq_true rfl) ?_
        show jv_V E 27 [some (.ref 0), some (.int p1), some (.int p2), some (.int p3), some (.int p4)] [.int q6] q5.2
        cases h
noncomputable def f_X7_countPaths (σ : jv_S) (p1 : Int32) (p2 : Int32) (p3 : Int32) : Option (Except String Int32 × jv_S) := jv_xe (f_X7_requireTwoNodes σ p1 p2) (fun e2 => some (.error e2, σ)) (fun q1 => jv_xe (f_X7_requireRange σ p3 (0 : Int32) (100000 : Int32)) (fun e4 => some (.error e4, σ)) (fun q3 => jv_bd (f_X4_upTo σ p1 p2 p3) (fun q5 => some (.ok q5.1, q5.2))))
set_option maxRecDepth 100000 in
set_option maxHeartbeats 4000000 in
theorem ok_X7_countPaths {G : jv_G} {l : Launch} {σ : jv_S} {p1 : Int32} {p2 : Int32} {p3 : Int32} {r : Int32} {τ : jv_S} (h : f_X7_countPaths σ p1 p2 p3 = some (.ok r, τ)) : jv_Cn G l 17 M_X7_countPaths [.ref 0, .int p1, .int p2, .int p3] σ (some (.int r)) τ := by
  refine jv_of (L0 := [some (.ref 0), some (.int p1), some (.int p2), some (.int p3)]) (by decide +kernel) (Nat.le_of_ble_eq_true rfl) rfl (jv_okI _) (fun E e1 e2 hE hret => ?_)
  unfold f_X7_countPaths at h
  refine jv_aload_n (x := 0) (pc' := 1) hE dX7_countPaths_0 rfl 0 rfl rfl ?_
  refine jv_iload_n (x := p1) (pc' := 2) hE dX7_countPaths_1 rfl 1 rfl rfl ?_
  refine jv_iload_n (x := p2) (pc' := 3) hE dX7_countPaths_2 rfl 2 rfl rfl ?_
  rcases jv_xe_or h with ⟨e2, hq1, h⟩ | ⟨q1, hq1, h⟩
  · cases h
  · refine jv_callV (pc' := 6) (o := none) (σ' := σ) hE dX7_countPaths_3 rfl lV_X7_71 (ok_X7_requireTwoNodes hq1) rfl rfl rfl (by decide) rfl (Nat.le_of_ble_eq_true rfl) ?_
    show jv_V E 6 [some (.ref 0), some (.int p1), some (.int p2), some (.int p3)] [] σ
    refine jv_iload_n (x := p3) (pc' := 7) hE dX7_countPaths_6 rfl 3 rfl rfl ?_
    refine jv_iconst (v := (0 : Int32)) (pc' := 8) hE dX7_countPaths_7 rfl (by decide) ?_
    refine jv_ldc (v := (100000 : Int32)) (pc' := 10) hE dX7_countPaths_8 rfl lC_X7_179 ?_
    rcases jv_xe_or h with ⟨e4, hq3, h⟩ | ⟨q3, hq3, h⟩
    · cases h
    · refine jv_callS (pc' := 13) (o := none) (σ' := σ) hE dX7_countPaths_10 rfl lS_X7_60 (ok_X7_requireRange hq3) rfl (by decide) rfl (Nat.le_of_ble_eq_true rfl) ?_
      show jv_V E 13 [some (.ref 0), some (.int p1), some (.int p2), some (.int p3)] [] σ
      refine jv_aload_n (x := 0) (pc' := 14) hE dX7_countPaths_13 rfl 0 rfl rfl ?_
      refine jv_get (v := .ref 14) (pc' := 17) hE dX7_countPaths_14 rfl lF_X7_35 rfl rfl rfl ?_
      refine jv_iload_n (x := p1) (pc' := 18) hE dX7_countPaths_17 rfl 1 rfl rfl ?_
      refine jv_iload_n (x := p2) (pc' := 19) hE dX7_countPaths_18 rfl 2 rfl rfl ?_
      refine jv_iload_n (x := p3) (pc' := 20) hE dX7_countPaths_19 rfl 3 rfl rfl ?_
      obtain ⟨q5, hq5, h⟩ := jv_bd_some h
      refine jv_callV (pc' := 23) (o := some (.int q5.1)) (σ' := q5.2) hE dX7_countPaths_20 rfl lV_X7_180 (ok_X4_upTo hq5) rfl rfl rfl (by decide) rfl (Nat.le_of_ble_eq_true rfl) ?_
      show jv_V E 23 [some (.ref 0), some (.int p1), some (.int p2), some (.int p3)] [.int q5.1] q5.2
      cases h
      exact hret _ _ dX7_countPaths_23
set_option maxRecDepth 100000 in
set_option maxHeartbeats 4000000 in
theorem okt_X7_countPaths {G : jv_G} {l : Launch} (hl0 : l.stackTraces = false) {σ : jv_S} {p1 : Int32} {p2 : Int32} {p3 : Int32} {E0 : String} {τ : jv_S} (h : f_X7_countPaths σ p1 p2 p3 = some (.error E0, τ)) : jv_Ct G l 17 M_X7_countPaths [.ref 0, .int p1, .int p2, .int p3] σ E0 τ := by
  refine jv_oft (L0 := [some (.ref 0), some (.int p1), some (.int p2), some (.int p3)]) hl0 (by decide +kernel) (Nat.le_of_ble_eq_true rfl) rfl (fun E e1 e2 hE hR hT => ?_)
  subst e1; subst e2
  unfold f_X7_countPaths at h
  refine jv_aload_n (x := 0) (pc' := 1) hE dX7_countPaths_0 rfl 0 rfl rfl ?_
  refine jv_iload_n (x := p1) (pc' := 2) hE dX7_countPaths_1 rfl 1 rfl rfl ?_
  refine jv_iload_n (x := p2) (pc' := 3) hE dX7_countPaths_2 rfl 2 rfl rfl ?_
  rcases jv_xe_or h with ⟨e2, hq1, h⟩ | ⟨q1, hq1, h⟩
  · cases h
    exact jv_callVt hE hT dX7_countPaths_3 lV_X7_71 (okt_X7_requireTwoNodes hl0 hq1) hR rfl rfl rfl (by decide) rfl (Nat.le_of_ble_eq_true rfl)
  · refine jv_callV (pc' := 6) (o := none) (σ' := σ) hE dX7_countPaths_3 rfl lV_X7_71 (ok_X7_requireTwoNodes hq1) rfl rfl rfl (by decide) rfl (Nat.le_of_ble_eq_true rfl) ?_
    show jv_V E 6 [some (.ref 0), some (.int p1), some (.int p2), some (.int p3)] [] σ
    refine jv_iload_n (x := p3) (pc' := 7) hE dX7_countPaths_6 rfl 3 rfl rfl ?_
    refine jv_iconst (v := (0 : Int32)) (pc' := 8) hE dX7_countPaths_7 rfl (by decide) ?_
    refine jv_ldc (v := (100000 : Int32)) (pc' := 10) hE dX7_countPaths_8 rfl lC_X7_179 ?_
    rcases jv_xe_or h with ⟨e4, hq3, h⟩ | ⟨q3, hq3, h⟩
    · cases h
      exact jv_callSt hE hT dX7_countPaths_10 lS_X7_60 (okt_X7_requireRange hl0 hq3) hR rfl (by decide) rfl (Nat.le_of_ble_eq_true rfl)
    · refine jv_callS (pc' := 13) (o := none) (σ' := σ) hE dX7_countPaths_10 rfl lS_X7_60 (ok_X7_requireRange hq3) rfl (by decide) rfl (Nat.le_of_ble_eq_true rfl) ?_
      show jv_V E 13 [some (.ref 0), some (.int p1), some (.int p2), some (.int p3)] [] σ
      refine jv_aload_n (x := 0) (pc' := 14) hE dX7_countPaths_13 rfl 0 rfl rfl ?_
      refine jv_get (v := .ref 14) (pc' := 17) hE dX7_countPaths_14 rfl lF_X7_35 rfl rfl rfl ?_
      refine jv_iload_n (x := p1) (pc' := 18) hE dX7_countPaths_17 rfl 1 rfl rfl ?_
      refine jv_iload_n (x := p2) (pc' := 19) hE dX7_countPaths_18 rfl 2 rfl rfl ?_
      refine jv_iload_n (x := p3) (pc' := 20) hE dX7_countPaths_19 rfl 3 rfl rfl ?_
      obtain ⟨q5, hq5, h⟩ := jv_bd_some h
      refine jv_callV (pc' := 23) (o := some (.int q5.1)) (σ' := q5.2) hE dX7_countPaths_20 rfl lV_X7_180 (ok_X4_upTo hq5) rfl rfl rfl (by decide) rfl (Nat.le_of_ble_eq_true rfl) ?_
      show jv_V E 23 [some (.ref 0), some (.int p1), some (.int p2), some (.int p3)] [.int q5.1] q5.2
      cases h
noncomputable def f_X7_disjointPaths (σ : jv_S) (p1 : Int32) (p2 : Int32) (p3 : Int32) : Option (Except String Int32 × jv_S) := jv_xe (f_X7_requireTwoNodes σ p1 p2) (fun e2 => some (.error e2, σ)) (fun q1 => jv_bd (f_X1_pathTotal σ p1 p2 p3) (fun q3 => some (.ok q3.1, q3.2)))
set_option maxRecDepth 100000 in
set_option maxHeartbeats 4000000 in
theorem ok_X7_disjointPaths {G : jv_G} {l : Launch} {σ : jv_S} {p1 : Int32} {p2 : Int32} {p3 : Int32} {r : Int32} {τ : jv_S} (h : f_X7_disjointPaths σ p1 p2 p3 = some (.ok r, τ)) : jv_Cn G l 6 M_X7_disjointPaths [.ref 0, .int p1, .int p2, .int p3] σ (some (.int r)) τ := by
  refine jv_of (L0 := [some (.ref 0), some (.int p1), some (.int p2), some (.int p3)]) (by decide +kernel) (Nat.le_of_ble_eq_true rfl) rfl (jv_okI _) (fun E e1 e2 hE hret => ?_)
  unfold f_X7_disjointPaths at h
  refine jv_aload_n (x := 0) (pc' := 1) hE dX7_disjointPaths_0 rfl 0 rfl rfl ?_
  refine jv_iload_n (x := p1) (pc' := 2) hE dX7_disjointPaths_1 rfl 1 rfl rfl ?_
  refine jv_iload_n (x := p2) (pc' := 3) hE dX7_disjointPaths_2 rfl 2 rfl rfl ?_
  rcases jv_xe_or h with ⟨e2, hq1, h⟩ | ⟨q1, hq1, h⟩
  · cases h
  · refine jv_callV (pc' := 6) (o := none) (σ' := σ) hE dX7_disjointPaths_3 rfl lV_X7_71 (ok_X7_requireTwoNodes hq1) rfl rfl rfl (by decide) rfl (Nat.le_of_ble_eq_true rfl) ?_
    show jv_V E 6 [some (.ref 0), some (.int p1), some (.int p2), some (.int p3)] [] σ
    refine jv_aload_n (x := 0) (pc' := 7) hE dX7_disjointPaths_6 rfl 0 rfl rfl ?_
    refine jv_get (v := .ref 24) (pc' := 10) hE dX7_disjointPaths_7 rfl lF_X7_49 rfl rfl rfl ?_
    refine jv_iload_n (x := p1) (pc' := 11) hE dX7_disjointPaths_10 rfl 1 rfl rfl ?_
    refine jv_iload_n (x := p2) (pc' := 12) hE dX7_disjointPaths_11 rfl 2 rfl rfl ?_
    refine jv_iload_n (x := p3) (pc' := 13) hE dX7_disjointPaths_12 rfl 3 rfl rfl ?_
    obtain ⟨q3, hq3, h⟩ := jv_bd_some h
    refine jv_callV (pc' := 16) (o := some (.int q3.1)) (σ' := q3.2) hE dX7_disjointPaths_13 rfl lV_X7_196 (ok_X1_pathTotal hq3) rfl rfl rfl (by decide) rfl (Nat.le_of_ble_eq_true rfl) ?_
    show jv_V E 16 [some (.ref 0), some (.int p1), some (.int p2), some (.int p3)] [.int q3.1] q3.2
    cases h
    exact hret _ _ dX7_disjointPaths_16
set_option maxRecDepth 100000 in
set_option maxHeartbeats 4000000 in
theorem okt_X7_disjointPaths {G : jv_G} {l : Launch} (hl0 : l.stackTraces = false) {σ : jv_S} {p1 : Int32} {p2 : Int32} {p3 : Int32} {E0 : String} {τ : jv_S} (h : f_X7_disjointPaths σ p1 p2 p3 = some (.error E0, τ)) : jv_Ct G l 6 M_X7_disjointPaths [.ref 0, .int p1, .int p2, .int p3] σ E0 τ := by
  refine jv_oft (L0 := [some (.ref 0), some (.int p1), some (.int p2), some (.int p3)]) hl0 (by decide +kernel) (Nat.le_of_ble_eq_true rfl) rfl (fun E e1 e2 hE hR hT => ?_)
  subst e1; subst e2
  unfold f_X7_disjointPaths at h
  refine jv_aload_n (x := 0) (pc' := 1) hE dX7_disjointPaths_0 rfl 0 rfl rfl ?_
  refine jv_iload_n (x := p1) (pc' := 2) hE dX7_disjointPaths_1 rfl 1 rfl rfl ?_
  refine jv_iload_n (x := p2) (pc' := 3) hE dX7_disjointPaths_2 rfl 2 rfl rfl ?_
  rcases jv_xe_or h with ⟨e2, hq1, h⟩ | ⟨q1, hq1, h⟩
  · cases h
    exact jv_callVt hE hT dX7_disjointPaths_3 lV_X7_71 (okt_X7_requireTwoNodes hl0 hq1) hR rfl rfl rfl (by decide) rfl (Nat.le_of_ble_eq_true rfl)
  · refine jv_callV (pc' := 6) (o := none) (σ' := σ) hE dX7_disjointPaths_3 rfl lV_X7_71 (ok_X7_requireTwoNodes hq1) rfl rfl rfl (by decide) rfl (Nat.le_of_ble_eq_true rfl) ?_
    show jv_V E 6 [some (.ref 0), some (.int p1), some (.int p2), some (.int p3)] [] σ
    refine jv_aload_n (x := 0) (pc' := 7) hE dX7_disjointPaths_6 rfl 0 rfl rfl ?_
    refine jv_get (v := .ref 24) (pc' := 10) hE dX7_disjointPaths_7 rfl lF_X7_49 rfl rfl rfl ?_
    refine jv_iload_n (x := p1) (pc' := 11) hE dX7_disjointPaths_10 rfl 1 rfl rfl ?_
    refine jv_iload_n (x := p2) (pc' := 12) hE dX7_disjointPaths_11 rfl 2 rfl rfl ?_
    refine jv_iload_n (x := p3) (pc' := 13) hE dX7_disjointPaths_12 rfl 3 rfl rfl ?_
    obtain ⟨q3, hq3, h⟩ := jv_bd_some h
    refine jv_callV (pc' := 16) (o := some (.int q3.1)) (σ' := q3.2) hE dX7_disjointPaths_13 rfl lV_X7_196 (ok_X1_pathTotal hq3) rfl rfl rfl (by decide) rfl (Nat.le_of_ble_eq_true rfl) ?_
    show jv_V E 16 [some (.ref 0), some (.int p1), some (.int p2), some (.int p3)] [.int q3.1] q3.2
    cases h
