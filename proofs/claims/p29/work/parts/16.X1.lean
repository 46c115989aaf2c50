noncomputable def f_X1_pointBehind (σ : jv_S) (p1 : Int32) : Int32 := (((2 : Int32) * p1) + (1 : Int32))
set_option maxRecDepth 100000 in
set_option maxHeartbeats 4000000 in
theorem ok_X1_pointBehind {G : jv_G} {l : Launch} {σ : jv_S} {p1 : Int32} {r : Int32} (h : f_X1_pointBehind σ p1 = r) : jv_Cn G l 1 M_X1_pointBehind [.int p1] σ (some (.int r)) σ := by
  refine jv_of (L0 := [some (.int p1)]) (by decide +kernel) (Nat.le_of_ble_eq_true rfl) rfl (jv_okI _) (fun E e1 e2 hE hret => ?_)
  unfold f_X1_pointBehind at h
  refine jv_iconst (v := (2 : Int32)) (pc' := 1) hE dX1_pointBehind_0 rfl (by decide) ?_
  refine jv_iload_n (x := p1) (pc' := 2) hE dX1_pointBehind_1 rfl 0 rfl rfl ?_
  refine jv_imul (x := (2 : Int32)) (y := p1) (pc' := 3) hE dX1_pointBehind_2 rfl ?_
  refine jv_iconst (v := (1 : Int32)) (pc' := 4) hE dX1_pointBehind_3 rfl (by decide) ?_
  refine jv_iadd (x := ((2 : Int32) * p1)) (y := (1 : Int32)) (pc' := 5) hE dX1_pointBehind_4 rfl ?_
  cases h
  exact hret _ _ dX1_pointBehind_5
noncomputable def f_X1_pointBefore (σ : jv_S) (p1 : Int32) : Int32 := ((2 : Int32) * p1)
set_option maxRecDepth 100000 in
set_option maxHeartbeats 4000000 in
theorem ok_X1_pointBefore {G : jv_G} {l : Launch} {σ : jv_S} {p1 : Int32} {r : Int32} (h : f_X1_pointBefore σ p1 = r) : jv_Cn G l 1 M_X1_pointBefore [.int p1] σ (some (.int r)) σ := by
  refine jv_of (L0 := [some (.int p1)]) (by decide +kernel) (Nat.le_of_ble_eq_true rfl) rfl (jv_okI _) (fun E e1 e2 hE hret => ?_)
  unfold f_X1_pointBefore at h
  refine jv_iconst (v := (2 : Int32)) (pc' := 1) hE dX1_pointBefore_0 rfl (by decide) ?_
  refine jv_iload_n (x := p1) (pc' := 2) hE dX1_pointBefore_1 rfl 0 rfl rfl ?_
  refine jv_imul (x := (2 : Int32)) (y := p1) (pc' := 3) hE dX1_pointBefore_2 rfl ?_
  cases h
  exact hret _ _ dX1_pointBefore_3
noncomputable def f_X1_layArc (σ : jv_S) (p1 : Int32) (p2 : Int32) (p3 : Int32) (p4 : Int32) : jv_S := (jv_wr (jv_wr (jv_wr σ 25 34 p1 p2) 26 34 p1 p3) 28 34 p1 p4)
set_option maxRecDepth 100000 in
set_option maxHeartbeats 4000000 in
theorem ok_X1_layArc {G : jv_G} {l : Launch} {σ : jv_S} {p1 : Int32} {p2 : Int32} {p3 : Int32} {p4 : Int32} {r : jv_S} (h : f_X1_layArc σ p1 p2 p3 p4 = r) : jv_Cn G l 2 M_X1_layArc [.ref 24, .int p1, .int p2, .int p3, .int p4] σ (none) r := by
  refine jv_of (L0 := [some (.ref 24), some (.int p1), some (.int p2), some (.int p3), some (.int p4)]) (by decide +kernel) (Nat.le_of_ble_eq_true rfl) rfl jv_okV (fun E e1 e2 hE hret => ?_)
  unfold f_X1_layArc at h
  refine jv_aload_n (x := 24) (pc' := 1) hE dX1_layArc_0 rfl 0 rfl rfl ?_
  refine jv_get (v := .ref 25) (pc' := 4) hE dX1_layArc_1 rfl lF_X1_11 rfl rfl rfl ?_
  refine jv_iload_n (x := p1) (pc' := 5) hE dX1_layArc_4 rfl 1 rfl rfl ?_
  refine jv_iload_n (x := p2) (pc' := 6) hE dX1_layArc_5 rfl 2 rfl rfl ?_
  refine jv_callN (pc' := 9) (o := none) (σ' := (jv_wr σ 25 34 p1 p2)) hE dX1_layArc_6 rfl lN_X1_87 (ok_X7_put (n := 34) (by decide) rfl rfl) rfl (by decide) rfl (Nat.le_of_ble_eq_true rfl) ?_
  show jv_V E 9 [some (.ref 24), some (.int p1), some (.int p2), some (.int p3), some (.int p4)] [] (jv_wr σ 25 34 p1 p2)
  refine jv_aload_n (x := 24) (pc' := 10) hE dX1_layArc_9 rfl 0 rfl rfl ?_
  refine jv_get (v := .ref 26) (pc' := 13) hE dX1_layArc_10 rfl lF_X1_15 rfl rfl rfl ?_
  refine jv_iload_n (x := p1) (pc' := 14) hE dX1_layArc_13 rfl 1 rfl rfl ?_
  refine jv_iload_n (x := p3) (pc' := 15) hE dX1_layArc_14 rfl 3 rfl rfl ?_
  refine jv_callN (pc' := 18) (o := none) (σ' := (jv_wr (jv_wr σ 25 34 p1 p2) 26 34 p1 p3)) hE dX1_layArc_15 rfl lN_X1_87 (ok_X7_put (n := 34) (by decide) rfl rfl) rfl (by decide) rfl (Nat.le_of_ble_eq_true rfl) ?_
  show jv_V E 18 [some (.ref 24), some (.int p1), some (.int p2), some (.int p3), some (.int p4)] [] (jv_wr (jv_wr σ 25 34 p1 p2) 26 34 p1 p3)
  refine jv_aload_n (x := 24) (pc' := 19) hE dX1_layArc_18 rfl 0 rfl rfl ?_
  refine jv_get (v := .ref 28) (pc' := 22) hE dX1_layArc_19 rfl lF_X1_21 rfl rfl rfl ?_
  refine jv_iload_n (x := p1) (pc' := 23) hE dX1_layArc_22 rfl 1 rfl rfl ?_
  refine jv_iload (x := p4) (pc' := 25) hE dX1_layArc_23 rfl rfl ?_
  refine jv_callN (pc' := 28) (o := none) (σ' := (jv_wr (jv_wr (jv_wr σ 25 34 p1 p2) 26 34 p1 p3) 28 34 p1 p4)) hE dX1_layArc_25 rfl lN_X1_87 (ok_X7_put (n := 34) (by decide) rfl rfl) rfl (by decide) rfl (Nat.le_of_ble_eq_true rfl) ?_
  show jv_V E 28 [some (.ref 24), some (.int p1), some (.int p2), some (.int p3), some (.int p4)] [] (jv_wr (jv_wr (jv_wr σ 25 34 p1 p2) 26 34 p1 p3) 28 34 p1 p4)
  cases h
  exact hret _ _ dX1_layArc_28
noncomputable def f_X1_layArcs_lp35 (a1 : Int32) (a2 : Int32) (a3 : Int32) : Nat → Int32 → jv_S → Option (Int32 × jv_S)
  | 0, _, _ => none
  | n + 1, v4, σ => if (f_X3_usableTotal σ) ≤ v4 then (some (v4, σ)) else (jv_lt (f_X1_layArc σ (f_X3_outEdge σ v4) (f_X1_pointBehind σ (f_X3_tailOf σ (f_X3_outEdge σ v4))) (f_X1_pointBefore σ (f_X3_headOf σ (f_X3_outEdge σ v4))) (1 : Int32)) (fun q2 => f_X1_layArcs_lp35 a1 a2 a3 n (v4 + (1 : Int32)) (jv_wr q2 27 34 (f_X3_outEdge σ v4) (f_X3_lengthOf q2 (f_X3_outEdge σ v4)))))
noncomputable def f_X1_layArcs_lp116 (a1 : Int32) (a2 : Int32) (a3 : Int32) : Nat → Int32 → jv_S → Option (Int32 × jv_S)
  | 0, _, _ => none
  | n + 1, v4, σ => if (10 : Int32) ≤ v4 then (some (v4, σ)) else (jv_lt (if v4 = a1 then ((0 : Int32)) else (if v4 = a2 then ((0 : Int32)) else (if a3 = 0 then ((24 : Int32)) else ((1 : Int32))))) (fun q6 => jv_lt (f_X1_layArc σ ((24 : Int32) + v4) (f_X1_pointBefore σ v4) (f_X1_pointBehind σ v4) q6) (fun q9 => f_X1_layArcs_lp116 a1 a2 a3 n (v4 + (1 : Int32)) q9)))
noncomputable def f_X1_layArcs (σ : jv_S) (p1 : Int32) (p2 : Int32) (p3 : Int32) : Option (jv_S) := jv_bd (f_X1_layArcs_lp35 p1 p2 p3 jv_fuel (0 : Int32) (jv_fl (jv_fl (jv_si (jv_si σ 24 8 (f_X1_pointBehind σ p1)) 24 9 (f_X1_pointBefore (jv_si σ 24 8 (f_X1_pointBehind σ p1)) p2)) 29 34 (0 : Int32)) 28 34 (0 : Int32))) (fun q3 => jv_bd (f_X1_layArcs_lp116 p1 p2 p3 jv_fuel (0 : Int32) q3.2) (fun q10 => some q10.2))
set_option maxRecDepth 100000 in
set_option maxHeartbeats 4000000 in
theorem lp_X1_layArcs_35 {a1 : Int32} {a2 : Int32} {a3 : Int32} {E : jv_E} (hE : jv_Cx E RX1 cX1_layArcs 6 3) : ∀ (n : Nat) (v4 : Int32) (σ : jv_S) (q : Int32 × jv_S), f_X1_layArcs_lp35 a1 a2 a3 n v4 σ = some q → (jv_V E 113 [some (.ref 24), some (.int a1), some (.int a2), some (.int a3), none, none] [] q.2) → jv_V E 35 [some (.ref 24), some (.int a1), some (.int a2), some (.int a3), some (.int v4), none] [] σ := by
  intro n
  induction n with
  | zero =>
    intro v4 σ q h
    rw [f_X1_layArcs_lp35] at h
    cases h
  | succ n ih =>
    intro v4 σ q h hk
    rw [f_X1_layArcs_lp35] at h
    refine jv_iload (x := v4) (pc' := 37) hE dX1_layArcs_35 rfl rfl ?_
    refine jv_aload_n (x := 24) (pc' := 38) hE dX1_layArcs_37 rfl 0 rfl rfl ?_
    refine jv_get (v := .ref 1) (pc' := 41) hE dX1_layArcs_38 rfl lF_X1_33 rfl rfl rfl ?_
    refine jv_callV (pc' := 44) (o := some (.int (f_X3_usableTotal σ))) (σ' := σ) hE dX1_layArcs_41 rfl lV_X1_66 (ok_X3_usableTotal rfl) rfl rfl rfl (by decide) rfl (Nat.le_of_ble_eq_true rfl) ?_
    show jv_V E 44 [some (.ref 24), some (.int a1), some (.int a2), some (.int a3), some (.int v4), none] [.int (f_X3_usableTotal σ), .int v4] σ
    refine jv_icmp_ge (x := v4) (y := (f_X3_usableTotal σ)) (tgt := 113) (pc' := 47) hE dX1_layArcs_44 (by decide) rfl (fun c1 => ?_) (fun c1 => ?_)
    · rw [if_pos c1] at h
      cases h
      exact jv_forget [true, true, true, true, false, true] hk
    · rw [if_neg c1] at h
      refine jv_aload_n (x := 24) (pc' := 48) hE dX1_layArcs_47 rfl 0 rfl rfl ?_
      refine jv_get (v := .ref 1) (pc' := 51) hE dX1_layArcs_48 rfl lF_X1_33 rfl rfl rfl ?_
      refine jv_iload (x := v4) (pc' := 53) hE dX1_layArcs_51 rfl rfl ?_
      refine jv_callV (pc' := 56) (o := some (.int (f_X3_outEdge σ v4))) (σ' := σ) hE dX1_layArcs_53 rfl lV_X1_71 (ok_X3_outEdge rfl) rfl rfl rfl (by decide) rfl (Nat.le_of_ble_eq_true rfl) ?_
      show jv_V E 56 [some (.ref 24), some (.int a1), some (.int a2), some (.int a3), some (.int v4), none] [.int (f_X3_outEdge σ v4)] σ
      refine jv_istore (x := (f_X3_outEdge σ v4)) (L' := [some (.ref 24), some (.int a1), some (.int a2), some (.int a3), some (.int v4), some (.int (f_X3_outEdge σ v4))]) (pc' := 58) hE dX1_layArcs_56 rfl (by decide) rfl rfl ?_
      refine jv_aload_n (x := 24) (pc' := 59) hE dX1_layArcs_58 rfl 0 rfl rfl ?_
      refine jv_iload (x := (f_X3_outEdge σ v4)) (pc' := 61) hE dX1_layArcs_59 rfl rfl ?_
      refine jv_aload_n (x := 24) (pc' := 62) hE dX1_layArcs_61 rfl 0 rfl rfl ?_
      refine jv_get (v := .ref 1) (pc' := 65) hE dX1_layArcs_62 rfl lF_X1_33 rfl rfl rfl ?_
      refine jv_iload (x := (f_X3_outEdge σ v4)) (pc' := 67) hE dX1_layArcs_65 rfl rfl ?_
      refine jv_callV (pc' := 70) (o := some (.int (f_X3_tailOf σ (f_X3_outEdge σ v4)))) (σ' := σ) hE dX1_layArcs_67 rfl lV_X1_74 (ok_X3_tailOf rfl) rfl rfl rfl (by decide) rfl (Nat.le_of_ble_eq_true rfl) ?_
      show jv_V E 70 [some (.ref 24), some (.int a1), some (.int a2), some (.int a3), some (.int v4), some (.int (f_X3_outEdge σ v4))] [.int (f_X3_tailOf σ (f_X3_outEdge σ v4)), .int (f_X3_outEdge σ v4), .ref 24] σ
      refine jv_callS (pc' := 73) (o := some (.int (f_X1_pointBehind σ (f_X3_tailOf σ (f_X3_outEdge σ v4))))) (σ' := σ) hE dX1_layArcs_70 rfl lS_X1_46 (ok_X1_pointBehind rfl) rfl (by decide) rfl (Nat.le_of_ble_eq_true rfl) ?_
      show jv_V E 73 [some (.ref 24), some (.int a1), some (.int a2), some (.int a3), some (.int v4), some (.int (f_X3_outEdge σ v4))] [.int (f_X1_pointBehind σ (f_X3_tailOf σ (f_X3_outEdge σ v4))), .int (f_X3_outEdge σ v4), .ref 24] σ
      refine jv_aload_n (x := 24) (pc' := 74) hE dX1_layArcs_73 rfl 0 rfl rfl ?_
      refine jv_get (v := .ref 1) (pc' := 77) hE dX1_layArcs_74 rfl lF_X1_33 rfl rfl rfl ?_
      refine jv_iload (x := (f_X3_outEdge σ v4)) (pc' := 79) hE dX1_layArcs_77 rfl rfl ?_
      refine jv_callV (pc' := 82) (o := some (.int (f_X3_headOf σ (f_X3_outEdge σ v4)))) (σ' := σ) hE dX1_layArcs_79 rfl lV_X1_77 (ok_X3_headOf rfl) rfl rfl rfl (by decide) rfl (Nat.le_of_ble_eq_true rfl) ?_
      show jv_V E 82 [some (.ref 24), some (.int a1), some (.int a2), some (.int a3), some (.int v4), some (.int (f_X3_outEdge σ v4))] [.int (f_X3_headOf σ (f_X3_outEdge σ v4)), .int (f_X1_pointBehind σ (f_X3_tailOf σ (f_X3_outEdge σ v4))), .int (f_X3_outEdge σ v4), .ref 24] σ
      refine jv_callS (pc' := 85) (o := some (.int (f_X1_pointBefore σ (f_X3_headOf σ (f_X3_outEdge σ v4))))) (σ' := σ) hE dX1_layArcs_82 rfl lS_X1_54 (ok_X1_pointBefore rfl) rfl (by decide) rfl (Nat.le_of_ble_eq_true rfl) ?_
      show jv_V E 85 [some (.ref 24), some (.int a1), some (.int a2), some (.int a3), some (.int v4), some (.int (f_X3_outEdge σ v4))] [.int (f_X1_pointBefore σ (f_X3_headOf σ (f_X3_outEdge σ v4))), .int (f_X1_pointBehind σ (f_X3_tailOf σ (f_X3_outEdge σ v4))), .int (f_X3_outEdge σ v4), .ref 24] σ
      refine jv_iconst (v := (1 : Int32)) (pc' := 86) hE dX1_layArcs_85 rfl (by decide) ?_
      obtain ⟨q2, hq2, h⟩ := jv_lt_eq h
      refine jv_callV (pc' := 89) (o := none) (σ' := q2) hE dX1_layArcs_86 rfl lV_X1_80 (ok_X1_layArc hq2) rfl rfl rfl (by decide) rfl (Nat.le_of_ble_eq_true rfl) ?_
      show jv_V E 89 [some (.ref 24), some (.int a1), some (.int a2), some (.int a3), some (.int v4), some (.int (f_X3_outEdge σ v4))] [] q2
      refine jv_aload_n (x := 24) (pc' := 90) hE dX1_layArcs_89 rfl 0 rfl rfl ?_
      refine jv_get (v := .ref 27) (pc' := 93) hE dX1_layArcs_90 rfl lF_X1_18 rfl rfl rfl ?_
      refine jv_iload (x := (f_X3_outEdge σ v4)) (pc' := 95) hE dX1_layArcs_93 rfl rfl ?_
      refine jv_aload_n (x := 24) (pc' := 96) hE dX1_layArcs_95 rfl 0 rfl rfl ?_
      refine jv_get (v := .ref 1) (pc' := 99) hE dX1_layArcs_96 rfl lF_X1_33 rfl rfl rfl ?_
      refine jv_iload (x := (f_X3_outEdge σ v4)) (pc' := 101) hE dX1_layArcs_99 rfl rfl ?_
      refine jv_callV (pc' := 104) (o := some (.int (f_X3_lengthOf q2 (f_X3_outEdge σ v4)))) (σ' := q2) hE dX1_layArcs_101 rfl lV_X1_84 (ok_X3_lengthOf rfl) rfl rfl rfl (by decide) rfl (Nat.le_of_ble_eq_true rfl) ?_
      show jv_V E 104 [some (.ref 24), some (.int a1), some (.int a2), some (.int a3), some (.int v4), some (.int (f_X3_outEdge σ v4))] [.int (f_X3_lengthOf q2 (f_X3_outEdge σ v4)), .int (f_X3_outEdge σ v4), .ref 27] q2
      refine jv_callN (pc' := 107) (o := none) (σ' := (jv_wr q2 27 34 (f_X3_outEdge σ v4) (f_X3_lengthOf q2 (f_X3_outEdge σ v4)))) hE dX1_layArcs_104 rfl lN_X1_87 (ok_X7_put (n := 34) (by decide) rfl rfl) rfl (by decide) rfl (Nat.le_of_ble_eq_true rfl) ?_
      show jv_V E 107 [some (.ref 24), some (.int a1), some (.int a2), some (.int a3), some (.int v4), some (.int (f_X3_outEdge σ v4))] [] (jv_wr q2 27 34 (f_X3_outEdge σ v4) (f_X3_lengthOf q2 (f_X3_outEdge σ v4)))
      refine jv_iinc (x := v4) (v := (v4 + (1 : Int32))) (L' := [some (.ref 24), some (.int a1), some (.int a2), some (.int a3), some (.int (v4 + (1 : Int32))), some (.int (f_X3_outEdge σ v4))]) (pc' := 110) hE dX1_layArcs_107 rfl rfl rfl (by decide) rfl rfl ?_
      refine jv_goto (tgt := 35) hE dX1_layArcs_110 (by decide) ?_
      exact jv_forget [true, true, true, true, true, false] (ih (v4 + (1 : Int32)) (jv_wr q2 27 34 (f_X3_outEdge σ v4) (f_X3_lengthOf q2 (f_X3_outEdge σ v4))) _ h hk)
set_option maxRecDepth 100000 in
set_option maxHeartbeats 4000000 in
theorem lp_X1_layArcs_116 {a1 : Int32} {a2 : Int32} {a3 : Int32} {E : jv_E} (hE : jv_Cx E RX1 cX1_layArcs 6 3) : ∀ (n : Nat) (v4 : Int32) (σ : jv_S) (q : Int32 × jv_S), f_X1_layArcs_lp116 a1 a2 a3 n v4 σ = some q → (jv_V E 178 [none, none, none, none, none, none] [] q.2) → jv_V E 116 [some (.ref 24), some (.int a1), some (.int a2), some (.int a3), some (.int v4), none] [] σ := by
  intro n
  induction n with
  | zero =>
    intro v4 σ q h
    rw [f_X1_layArcs_lp116] at h
    cases h
  | succ n ih =>
    intro v4 σ q h hk
    rw [f_X1_layArcs_lp116] at h
    refine jv_iload (x := v4) (pc' := 118) hE dX1_layArcs_116 rfl rfl ?_
    refine jv_bipush (v := (10 : Int32)) (pc' := 120) hE dX1_layArcs_118 rfl (by decide) ?_
    refine jv_icmp_ge (x := v4) (y := (10 : Int32)) (tgt := 178) (pc' := 123) hE dX1_layArcs_120 (by decide) rfl (fun c4 => ?_) (fun c4 => ?_)
    · rw [if_pos c4] at h
      cases h
      exact jv_forget [false, false, false, false, false, true] hk
    · rw [if_neg c4] at h
      refine jv_iload (x := v4) (pc' := 125) hE dX1_layArcs_123 rfl rfl ?_
      refine jv_iload_n (x := a1) (pc' := 126) hE dX1_layArcs_125 rfl 1 rfl rfl ?_
      obtain ⟨q6, hq6, h⟩ := jv_lt_eq h
      have kq6 : jv_V E 149 [some (.ref 24), some (.int a1), some (.int a2), some (.int a3), some (.int v4), none] [.int q6] σ := by
        refine jv_istore (x := q6) (L' := [some (.ref 24), some (.int a1), some (.int a2), some (.int a3), some (.int v4), some (.int q6)]) (pc' := 151) hE dX1_layArcs_149 rfl (by decide) rfl rfl ?_
        refine jv_aload_n (x := 24) (pc' := 152) hE dX1_layArcs_151 rfl 0 rfl rfl ?_
        refine jv_bipush (v := (24 : Int32)) (pc' := 154) hE dX1_layArcs_152 rfl (by decide) ?_
        refine jv_iload (x := v4) (pc' := 156) hE dX1_layArcs_154 rfl rfl ?_
        refine jv_iadd (x := (24 : Int32)) (y := v4) (pc' := 157) hE dX1_layArcs_156 rfl ?_
        refine jv_iload (x := v4) (pc' := 159) hE dX1_layArcs_157 rfl rfl ?_
        refine jv_callS (pc' := 162) (o := some (.int (f_X1_pointBefore σ v4))) (σ' := σ) hE dX1_layArcs_159 rfl lS_X1_54 (ok_X1_pointBefore rfl) rfl (by decide) rfl (Nat.le_of_ble_eq_true rfl) ?_
        show jv_V E 162 [some (.ref 24), some (.int a1), some (.int a2), some (.int a3), some (.int v4), some (.int q6)] [.int (f_X1_pointBefore σ v4), .int ((24 : Int32) + v4), .ref 24] σ
        refine jv_iload (x := v4) (pc' := 164) hE dX1_layArcs_162 rfl rfl ?_
        refine jv_callS (pc' := 167) (o := some (.int (f_X1_pointBehind σ v4))) (σ' := σ) hE dX1_layArcs_164 rfl lS_X1_46 (ok_X1_pointBehind rfl) rfl (by decide) rfl (Nat.le_of_ble_eq_true rfl) ?_
        show jv_V E 167 [some (.ref 24), some (.int a1), some (.int a2), some (.int a3), some (.int v4), some (.int q6)] [.int (f_X1_pointBehind σ v4), .int (f_X1_pointBefore σ v4), .int ((24 : Int32) + v4), .ref 24] σ
        refine jv_iload (x := q6) (pc' := 169) hE dX1_layArcs_167 rfl rfl ?_
        obtain ⟨q9, hq9, h⟩ := jv_lt_eq h
        refine jv_callV (pc' := 172) (o := none) (σ' := q9) hE dX1_layArcs_169 rfl lV_X1_80 (ok_X1_layArc hq9) rfl rfl rfl (by decide) rfl (Nat.le_of_ble_eq_true rfl) ?_
        show jv_V E 172 [some (.ref 24), some (.int a1), some (.int a2), some (.int a3), some (.int v4), some (.int q6)] [] q9
        refine jv_iinc (x := v4) (v := (v4 + (1 : Int32))) (L' := [some (.ref 24), some (.int a1), some (.int a2), some (.int a3), some (.int (v4 + (1 : Int32))), some (.int q6)]) (pc' := 175) hE dX1_layArcs_172 rfl rfl rfl (by decide) rfl rfl ?_
        refine jv_goto (tgt := 116) hE dX1_layArcs_175 (by decide) ?_
        exact jv_forget [true, true, true, true, true, false] (ih (v4 + (1 : Int32)) q9 _ h hk)
      refine jv_icmp_eq (x := v4) (y := a1) (tgt := 135) (pc' := 129) hE dX1_layArcs_126 (by decide) rfl (fun c5 => ?_) (fun c5 => ?_)
      · rw [if_pos c5] at hq6
        refine jv_iconst (v := (0 : Int32)) (pc' := 136) hE dX1_layArcs_135 rfl (by decide) ?_
        refine jv_goto (tgt := 149) hE dX1_layArcs_136 (by decide) ?_
        cases hq6
        exact jv_forget [true, true, true, true, true, true] kq6
      · rw [if_neg c5] at hq6
        refine jv_iload (x := v4) (pc' := 131) hE dX1_layArcs_129 rfl rfl ?_
        refine jv_iload_n (x := a2) (pc' := 132) hE dX1_layArcs_131 rfl 2 rfl rfl ?_
        refine jv_icmp_ne (x := v4) (y := a2) (tgt := 139) (pc' := 135) hE dX1_layArcs_132 (by decide) rfl (fun c7 => ?_) (fun c7 => ?_)
        · rw [if_neg c7] at hq6
          refine jv_iload_n (x := a3) (pc' := 140) hE dX1_layArcs_139 rfl 3 rfl rfl ?_
          refine jv_if_eq (x := a3) (tgt := 147) (pc' := 143) hE dX1_layArcs_140 (by decide) rfl (fun c8 => ?_) (fun c8 => ?_)
          · rw [if_pos c8] at hq6
            refine jv_bipush (v := (24 : Int32)) (pc' := 149) hE dX1_layArcs_147 rfl (by decide) ?_
            cases hq6
            exact jv_forget [true, true, true, true, true, true] kq6
          · rw [if_neg c8] at hq6
            refine jv_iconst (v := (1 : Int32)) (pc' := 144) hE dX1_layArcs_143 rfl (by decide) ?_
            refine jv_goto (tgt := 149) hE dX1_layArcs_144 (by decide) ?_
            cases hq6
            exact jv_forget [true, true, true, true, true, true] kq6
        · rw [if_pos c7] at hq6
          refine jv_iconst (v := (0 : Int32)) (pc' := 136) hE dX1_layArcs_135 rfl (by decide) ?_
          refine jv_goto (tgt := 149) hE dX1_layArcs_136 (by decide) ?_
          cases hq6
          exact jv_forget [true, true, true, true, true, true] kq6
set_option maxRecDepth 100000 in
set_option maxHeartbeats 4000000 in
theorem ok_X1_layArcs {G : jv_G} {l : Launch} {σ : jv_S} {p1 : Int32} {p2 : Int32} {p3 : Int32} {r : jv_S} (h : f_X1_layArcs σ p1 p2 p3 = some r) : jv_Cn G l 3 M_X1_layArcs [.ref 24, .int p1, .int p2, .int p3] σ (none) r := by
  refine jv_of (L0 := [some (.ref 24), some (.int p1), some (.int p2), some (.int p3), none, none]) (by decide +kernel) (Nat.le_of_ble_eq_true rfl) rfl jv_okV (fun E e1 e2 hE hret => ?_)
  unfold f_X1_layArcs at h
  refine jv_aload_n (x := 24) (pc' := 1) hE dX1_layArcs_0 rfl 0 rfl rfl ?_
  refine jv_iload_n (x := p1) (pc' := 2) hE dX1_layArcs_1 rfl 1 rfl rfl ?_
  refine jv_callS (pc' := 5) (o := some (.int (f_X1_pointBehind σ p1))) (σ' := σ) hE dX1_layArcs_2 rfl lS_X1_46 (ok_X1_pointBehind rfl) rfl (by decide) rfl (Nat.le_of_ble_eq_true rfl) ?_
  show jv_V E 5 [some (.ref 24), some (.int p1), some (.int p2), some (.int p3), none, none] [.int (f_X1_pointBehind σ p1), .ref 24] σ
  refine jv_puti (x := (f_X1_pointBehind σ p1)) (pc' := 8) hE dX1_layArcs_5 rfl lP_X1_50 rfl rfl rfl rfl ?_
  refine jv_aload_n (x := 24) (pc' := 9) hE dX1_layArcs_8 rfl 0 rfl rfl ?_
  refine jv_iload_n (x := p2) (pc' := 10) hE dX1_layArcs_9 rfl 2 rfl rfl ?_
  refine jv_callS (pc' := 13) (o := some (.int (f_X1_pointBefore (jv_si σ 24 8 (f_X1_pointBehind σ p1)) p2))) (σ' := (jv_si σ 24 8 (f_X1_pointBehind σ p1))) hE dX1_layArcs_10 rfl lS_X1_54 (ok_X1_pointBefore rfl) rfl (by decide) rfl (Nat.le_of_ble_eq_true rfl) ?_
  show jv_V E 13 [some (.ref 24), some (.int p1), some (.int p2), some (.int p3), none, none] [.int (f_X1_pointBefore (jv_si σ 24 8 (f_X1_pointBehind σ p1)) p2), .ref 24] (jv_si σ 24 8 (f_X1_pointBehind σ p1))
  refine jv_puti (x := (f_X1_pointBefore (jv_si σ 24 8 (f_X1_pointBehind σ p1)) p2)) (pc' := 16) hE dX1_layArcs_13 rfl lP_X1_57 rfl rfl rfl rfl ?_
  refine jv_aload_n (x := 24) (pc' := 17) hE dX1_layArcs_16 rfl 0 rfl rfl ?_
  refine jv_get (v := .ref 29) (pc' := 20) hE dX1_layArcs_17 rfl lF_X1_24 rfl rfl rfl ?_
  refine jv_iconst (v := (0 : Int32)) (pc' := 21) hE dX1_layArcs_20 rfl (by decide) ?_
  refine jv_callS (pc' := 24) (o := none) (σ' := (jv_fl (jv_si (jv_si σ 24 8 (f_X1_pointBehind σ p1)) 24 9 (f_X1_pointBefore (jv_si σ 24 8 (f_X1_pointBehind σ p1)) p2)) 29 34 (0 : Int32))) hE dX1_layArcs_21 rfl lS_X1_60 (ok_J7_fill_53178 (n := 34) (by decide) rfl rfl) rfl (by decide) rfl (Nat.le_of_ble_eq_true rfl) ?_
  show jv_V E 24 [some (.ref 24), some (.int p1), some (.int p2), some (.int p3), none, none] [] (jv_fl (jv_si (jv_si σ 24 8 (f_X1_pointBehind σ p1)) 24 9 (f_X1_pointBefore (jv_si σ 24 8 (f_X1_pointBehind σ p1)) p2)) 29 34 (0 : Int32))
  refine jv_aload_n (x := 24) (pc' := 25) hE dX1_layArcs_24 rfl 0 rfl rfl ?_
  refine jv_get (v := .ref 28) (pc' := 28) hE dX1_layArcs_25 rfl lF_X1_21 rfl rfl rfl ?_
  refine jv_iconst (v := (0 : Int32)) (pc' := 29) hE dX1_layArcs_28 rfl (by decide) ?_
  refine jv_callS (pc' := 32) (o := none) (σ' := (jv_fl (jv_fl (jv_si (jv_si σ 24 8 (f_X1_pointBehind σ p1)) 24 9 (f_X1_pointBefore (jv_si σ 24 8 (f_X1_pointBehind σ p1)) p2)) 29 34 (0 : Int32)) 28 34 (0 : Int32))) hE dX1_layArcs_29 rfl lS_X1_60 (ok_J7_fill_53178 (n := 34) (by decide) rfl rfl) rfl (by decide) rfl (Nat.le_of_ble_eq_true rfl) ?_
  show jv_V E 32 [some (.ref 24), some (.int p1), some (.int p2), some (.int p3), none, none] [] (jv_fl (jv_fl (jv_si (jv_si σ 24 8 (f_X1_pointBehind σ p1)) 24 9 (f_X1_pointBefore (jv_si σ 24 8 (f_X1_pointBehind σ p1)) p2)) 29 34 (0 : Int32)) 28 34 (0 : Int32))
  refine jv_iconst (v := (0 : Int32)) (pc' := 33) hE dX1_layArcs_32 rfl (by decide) ?_
  refine jv_istore (x := (0 : Int32)) (L' := [some (.ref 24), some (.int p1), some (.int p2), some (.int p3), some (.int (0 : Int32)), none]) (pc' := 35) hE dX1_layArcs_33 rfl (by decide) rfl rfl ?_
  obtain ⟨q3, hq3, h⟩ := jv_bd_some h
  refine jv_forget [true, true, true, true, true, true] (lp_X1_layArcs_35 hE jv_fuel (0 : Int32) (jv_fl (jv_fl (jv_si (jv_si σ 24 8 (f_X1_pointBehind σ p1)) 24 9 (f_X1_pointBefore (jv_si σ 24 8 (f_X1_pointBehind σ p1)) p2)) 29 34 (0 : Int32)) 28 34 (0 : Int32)) _ hq3 ?_)
  refine jv_iconst (v := (0 : Int32)) (pc' := 114) hE dX1_layArcs_113 rfl (by decide) ?_
  refine jv_istore (x := (0 : Int32)) (L' := [some (.ref 24), some (.int p1), some (.int p2), some (.int p3), some (.int (0 : Int32)), none]) (pc' := 116) hE dX1_layArcs_114 rfl (by decide) rfl rfl ?_
  obtain ⟨q10, hq10, h⟩ := jv_bd_some h
  refine jv_forget [true, true, true, true, true, true] (lp_X1_layArcs_116 hE jv_fuel (0 : Int32) q3.2 _ hq10 ?_)
  cases h
  exact hret _ _ dX1_layArcs_178
noncomputable def f_X1_reach (σ : jv_S) (p1 : Int32) (p2 : Int32) (p3 : Int32) (p4 : Int32) : Bool × jv_S := if (1000000000 : Int32) ≤ (jv_rd (σ.1 30) 20 0 p2) then ((false, σ)) else (if ((jv_rd (σ.1 30) 20 0 p2) + p3) < (jv_rd (σ.1 30) 20 0 p1) then ((true, (jv_wr (jv_wr σ 30 20 p1 ((jv_rd (σ.1 30) 20 0 p2) + p3)) 31 20 p1 p4))) else ((false, σ)))
set_option maxRecDepth 100000 in
set_option maxHeartbeats 4000000 in
theorem ok_X1_reach {G : jv_G} {l : Launch} {σ : jv_S} {p1 : Int32} {p2 : Int32} {p3 : Int32} {p4 : Int32} {r : Bool × jv_S} (h : f_X1_reach σ p1 p2 p3 p4 = r) : jv_Cn G l 2 M_X1_reach [.ref 24, .int p1, .int p2, .int p3, .int p4] σ (some (.int (jv_b r.1))) r.2 := by
  refine jv_of (L0 := [some (.ref 24), some (.int p1), some (.int p2), some (.int p3), some (.int p4), none]) (by decide +kernel) (Nat.le_of_ble_eq_true rfl) rfl (jv_okZ _) (fun E e1 e2 hE hret => ?_)
  unfold f_X1_reach at h
  refine jv_aload_n (x := 24) (pc' := 1) hE dX1_reach_0 rfl 0 rfl rfl ?_
  refine jv_get (v := .ref 30) (pc' := 4) hE dX1_reach_1 rfl lF_X1_27 rfl rfl rfl ?_
  refine jv_iload_n (x := p2) (pc' := 5) hE dX1_reach_4 rfl 2 rfl rfl ?_
  refine jv_callN (pc' := 8) (o := some (.int (jv_rd (σ.1 30) 20 0 p2))) (σ' := σ) hE dX1_reach_5 rfl lN_X1_95 (ok_X7_at (n := 20) (by decide) rfl rfl) rfl (by decide) rfl (Nat.le_of_ble_eq_true rfl) ?_
  show jv_V E 8 [some (.ref 24), some (.int p1), some (.int p2), some (.int p3), some (.int p4), none] [.int (jv_rd (σ.1 30) 20 0 p2)] σ
  refine jv_iload_n (x := p3) (pc' := 9) hE dX1_reach_8 rfl 3 rfl rfl ?_
  refine jv_iadd (x := (jv_rd (σ.1 30) 20 0 p2)) (y := p3) (pc' := 10) hE dX1_reach_9 rfl ?_
  refine jv_istore (x := ((jv_rd (σ.1 30) 20 0 p2) + p3)) (L' := [some (.ref 24), some (.int p1), some (.int p2), some (.int p3), some (.int p4), some (.int ((jv_rd (σ.1 30) 20 0 p2) + p3))]) (pc' := 12) hE dX1_reach_10 rfl (by decide) rfl rfl ?_
  refine jv_aload_n (x := 24) (pc' := 13) hE dX1_reach_12 rfl 0 rfl rfl ?_
  refine jv_get (v := .ref 30) (pc' := 16) hE dX1_reach_13 rfl lF_X1_27 rfl rfl rfl ?_
  refine jv_iload_n (x := p2) (pc' := 17) hE dX1_reach_16 rfl 2 rfl rfl ?_
  refine jv_callN (pc' := 20) (o := some (.int (jv_rd (σ.1 30) 20 0 p2))) (σ' := σ) hE dX1_reach_17 rfl lN_X1_95 (ok_X7_at (n := 20) (by decide) rfl rfl) rfl (by decide) rfl (Nat.le_of_ble_eq_true rfl) ?_
  show jv_V E 20 [some (.ref 24), some (.int p1), some (.int p2), some (.int p3), some (.int p4), some (.int ((jv_rd (σ.1 30) 20 0 p2) + p3))] [.int (jv_rd (σ.1 30) 20 0 p2)] σ
  refine jv_ldc (v := (1000000000 : Int32)) (pc' := 22) hE dX1_reach_20 rfl lC_X1_45 ?_
  refine jv_icmp_ge (x := (jv_rd (σ.1 30) 20 0 p2)) (y := (1000000000 : Int32)) (tgt := 38) (pc' := 25) hE dX1_reach_22 (by decide) rfl (fun c1 => ?_) (fun c1 => ?_)
  · rw [if_pos c1] at h
    refine jv_iconst (v := (0 : Int32)) (pc' := 39) hE dX1_reach_38 rfl (by decide) ?_
    cases h
    exact hret _ _ dX1_reach_39
  · rw [if_neg c1] at h
    refine jv_iload (x := ((jv_rd (σ.1 30) 20 0 p2) + p3)) (pc' := 27) hE dX1_reach_25 rfl rfl ?_
    refine jv_aload_n (x := 24) (pc' := 28) hE dX1_reach_27 rfl 0 rfl rfl ?_
    refine jv_get (v := .ref 30) (pc' := 31) hE dX1_reach_28 rfl lF_X1_27 rfl rfl rfl ?_
    refine jv_iload_n (x := p1) (pc' := 32) hE dX1_reach_31 rfl 1 rfl rfl ?_
    refine jv_callN (pc' := 35) (o := some (.int (jv_rd (σ.1 30) 20 0 p1))) (σ' := σ) hE dX1_reach_32 rfl lN_X1_95 (ok_X7_at (n := 20) (by decide) rfl rfl) rfl (by decide) rfl (Nat.le_of_ble_eq_true rfl) ?_
    show jv_V E 35 [some (.ref 24), some (.int p1), some (.int p2), some (.int p3), some (.int p4), some (.int ((jv_rd (σ.1 30) 20 0 p2) + p3))] [.int (jv_rd (σ.1 30) 20 0 p1), .int ((jv_rd (σ.1 30) 20 0 p2) + p3)] σ
    refine jv_icmp_lt (x := ((jv_rd (σ.1 30) 20 0 p2) + p3)) (y := (jv_rd (σ.1 30) 20 0 p1)) (tgt := 40) (pc' := 38) hE dX1_reach_35 (by decide) rfl (fun c2 => ?_) (fun c2 => ?_)
    · rw [if_pos c2] at h
      refine jv_aload_n (x := 24) (pc' := 41) hE dX1_reach_40 rfl 0 rfl rfl ?_
      refine jv_get (v := .ref 30) (pc' := 44) hE dX1_reach_41 rfl lF_X1_27 rfl rfl rfl ?_
      refine jv_iload_n (x := p1) (pc' := 45) hE dX1_reach_44 rfl 1 rfl rfl ?_
      refine jv_iload (x := ((jv_rd (σ.1 30) 20 0 p2) + p3)) (pc' := 47) hE dX1_reach_45 rfl rfl ?_
      refine jv_callN (pc' := 50) (o := none) (σ' := (jv_wr σ 30 20 p1 ((jv_rd (σ.1 30) 20 0 p2) + p3))) hE dX1_reach_47 rfl lN_X1_87 (ok_X7_put (n := 20) (by decide) rfl rfl) rfl (by decide) rfl (Nat.le_of_ble_eq_true rfl) ?_
      show jv_V E 50 [some (.ref 24), some (.int p1), some (.int p2), some (.int p3), some (.int p4), some (.int ((jv_rd (σ.1 30) 20 0 p2) + p3))] [] (jv_wr σ 30 20 p1 ((jv_rd (σ.1 30) 20 0 p2) + p3))
      refine jv_aload_n (x := 24) (pc' := 51) hE dX1_reach_50 rfl 0 rfl rfl ?_
      refine jv_get (v := .ref 31) (pc' := 54) hE dX1_reach_51 rfl lF_X1_30 rfl rfl rfl ?_
      refine jv_iload_n (x := p1) (pc' := 55) hE dX1_reach_54 rfl 1 rfl rfl ?_
      refine jv_iload (x := p4) (pc' := 57) hE dX1_reach_55 rfl rfl ?_
      refine jv_callN (pc' := 60) (o := none) (σ' := (jv_wr (jv_wr σ 30 20 p1 ((jv_rd (σ.1 30) 20 0 p2) + p3)) 31 20 p1 p4)) hE dX1_reach_57 rfl lN_X1_87 (ok_X7_put (n := 20) (by decide) rfl rfl) rfl (by decide) rfl (Nat.le_of_ble_eq_true rfl) ?_
      show jv_V E 60 [some (.ref 24), some (.int p1), some (.int p2), some (.int p3), some (.int p4), some (.int ((jv_rd (σ.1 30) 20 0 p2) + p3))] [] (jv_wr (jv_wr σ 30 20 p1 ((jv_rd (σ.1 30) 20 0 p2) + p3)) 31 20 p1 p4)
      refine jv_iconst (v := (1 : Int32)) (pc' := 61) hE dX1_reach_60 rfl (by decide) ?_
      cases h
      exact hret _ _ dX1_reach_61
    · rw [if_neg c2] at h
      refine jv_iconst (v := (0 : Int32)) (pc' := 39) hE dX1_reach_38 rfl (by decide) ?_
      cases h
      exact hret _ _ dX1_reach_39
noncomputable def f_X1_cheapenAll_lp4 : Nat → Bool → Int32 → jv_S → Option (Bool × Int32 × jv_S)
  | 0, _, _, _ => none
  | n + 1, v1, v2, σ => if (34 : Int32) ≤ v2 then (some (v1, v2, σ)) else (jv_lt (if (jv_rd (σ.1 28) 34 0 v2) ≤ (jv_rd (σ.1 29) 34 0 v2) then ((v1, σ)) else (jv_lt (f_X1_reach σ (jv_rd (σ.1 26) 34 0 v2) (jv_rd (σ.1 25) 34 0 v2) (jv_rd (σ.1 27) 34 0 v2) v2) (fun q4 => jv_lt (if q4.1 = true then (true) else (if v1 = true then (true) else (false))) (fun q6 => (q6, q4.2))))) (fun q3 => jv_lt (if (jv_rd (q3.2.1 29) 34 0 v2) ≤ 0 then ((q3.1, q3.2)) else (jv_lt (f_X1_reach q3.2 (jv_rd (σ.1 25) 34 0 v2) (jv_rd (σ.1 26) 34 0 v2) (-(jv_rd (q3.2.1 27) 34 0 v2)) v2) (fun q10 => jv_lt (if q10.1 = true then (true) else (if q3.1 = true then (true) else (false))) (fun q12 => (q12, q10.2))))) (fun q9 => f_X1_cheapenAll_lp4 n q9.1 (v2 + (1 : Int32)) q9.2)))
noncomputable def f_X1_cheapenAll (σ : jv_S) : Option (Bool × jv_S) := jv_bd (f_X1_cheapenAll_lp4 jv_fuel false (0 : Int32) σ) (fun q14 => some (q14.1, q14.2.2))
set_option maxRecDepth 100000 in
set_option maxHeartbeats 4000000 in
theorem lp_X1_cheapenAll_4 {E : jv_E} (hE : jv_Cx E RX1 cX1_cheapenAll 5 3) : ∀ (n : Nat) (v1 : Bool) (v2 : Int32) (σ : jv_S) (q : Bool × Int32 × jv_S), f_X1_cheapenAll_lp4 n v1 v2 σ = some q → (jv_V E 124 [none, some (.int (jv_b q.1)), none, none, none] [] q.2.2) → jv_V E 4 [some (.ref 24), some (.int (jv_b v1)), some (.int v2), none, none] [] σ := by
  intro n
  induction n with
  | zero =>
    intro v1 v2 σ q h
    rw [f_X1_cheapenAll_lp4] at h
    cases h
  | succ n ih =>
    intro v1 v2 σ q h hk
    rw [f_X1_cheapenAll_lp4] at h
    refine jv_iload_n (x := v2) (pc' := 5) hE dX1_cheapenAll_4 rfl 2 rfl rfl ?_
    refine jv_bipush (v := (34 : Int32)) (pc' := 7) hE dX1_cheapenAll_5 rfl (by decide) ?_
    refine jv_icmp_ge (x := v2) (y := (34 : Int32)) (tgt := 124) (pc' := 10) hE dX1_cheapenAll_7 (by decide) rfl (fun c1 => ?_) (fun c1 => ?_)
    · rw [if_pos c1] at h
      cases h
      exact jv_forget [false, true, false, true, true] hk
    · rw [if_neg c1] at h
      refine jv_aload_n (x := 24) (pc' := 11) hE dX1_cheapenAll_10 rfl 0 rfl rfl ?_
      refine jv_get (v := .ref 25) (pc' := 14) hE dX1_cheapenAll_11 rfl lF_X1_11 rfl rfl rfl ?_
      refine jv_iload_n (x := v2) (pc' := 15) hE dX1_cheapenAll_14 rfl 2 rfl rfl ?_
      refine jv_callN (pc' := 18) (o := some (.int (jv_rd (σ.1 25) 34 0 v2))) (σ' := σ) hE dX1_cheapenAll_15 rfl lN_X1_95 (ok_X7_at (n := 34) (by decide) rfl rfl) rfl (by decide) rfl (Nat.le_of_ble_eq_true rfl) ?_
      show jv_V E 18 [some (.ref 24), some (.int (jv_b v1)), some (.int v2), none, none] [.int (jv_rd (σ.1 25) 34 0 v2)] σ
      refine jv_istore_n (x := (jv_rd (σ.1 25) 34 0 v2)) (L' := [some (.ref 24), some (.int (jv_b v1)), some (.int v2), some (.int (jv_rd (σ.1 25) 34 0 v2)), none]) (pc' := 19) hE dX1_cheapenAll_18 rfl 3 rfl (by decide) rfl rfl ?_
      refine jv_aload_n (x := 24) (pc' := 20) hE dX1_cheapenAll_19 rfl 0 rfl rfl ?_
      refine jv_get (v := .ref 26) (pc' := 23) hE dX1_cheapenAll_20 rfl lF_X1_15 rfl rfl rfl ?_
      refine jv_iload_n (x := v2) (pc' := 24) hE dX1_cheapenAll_23 rfl 2 rfl rfl ?_
      refine jv_callN (pc' := 27) (o := some (.int (jv_rd (σ.1 26) 34 0 v2))) (σ' := σ) hE dX1_cheapenAll_24 rfl lN_X1_95 (ok_X7_at (n := 34) (by decide) rfl rfl) rfl (by decide) rfl (Nat.le_of_ble_eq_true rfl) ?_
      show jv_V E 27 [some (.ref 24), some (.int (jv_b v1)), some (.int v2), some (.int (jv_rd (σ.1 25) 34 0 v2)), none] [.int (jv_rd (σ.1 26) 34 0 v2)] σ
      refine jv_istore (x := (jv_rd (σ.1 26) 34 0 v2)) (L' := [some (.ref 24), some (.int (jv_b v1)), some (.int v2), some (.int (jv_rd (σ.1 25) 34 0 v2)), some (.int (jv_rd (σ.1 26) 34 0 v2))]) (pc' := 29) hE dX1_cheapenAll_27 rfl (by decide) rfl rfl ?_
      refine jv_aload_n (x := 24) (pc' := 30) hE dX1_cheapenAll_29 rfl 0 rfl rfl ?_
      refine jv_get (v := .ref 29) (pc' := 33) hE dX1_cheapenAll_30 rfl lF_X1_24 rfl rfl rfl ?_
      refine jv_iload_n (x := v2) (pc' := 34) hE dX1_cheapenAll_33 rfl 2 rfl rfl ?_
      refine jv_callN (pc' := 37) (o := some (.int (jv_rd (σ.1 29) 34 0 v2))) (σ' := σ) hE dX1_cheapenAll_34 rfl lN_X1_95 (ok_X7_at (n := 34) (by decide) rfl rfl) rfl (by decide) rfl (Nat.le_of_ble_eq_true rfl) ?_
      show jv_V E 37 [some (.ref 24), some (.int (jv_b v1)), some (.int v2), some (.int (jv_rd (σ.1 25) 34 0 v2)), some (.int (jv_rd (σ.1 26) 34 0 v2))] [.int (jv_rd (σ.1 29) 34 0 v2)] σ
      refine jv_aload_n (x := 24) (pc' := 38) hE dX1_cheapenAll_37 rfl 0 rfl rfl ?_
      refine jv_get (v := .ref 28) (pc' := 41) hE dX1_cheapenAll_38 rfl lF_X1_21 rfl rfl rfl ?_
      refine jv_iload_n (x := v2) (pc' := 42) hE dX1_cheapenAll_41 rfl 2 rfl rfl ?_
      refine jv_callN (pc' := 45) (o := some (.int (jv_rd (σ.1 28) 34 0 v2))) (σ' := σ) hE dX1_cheapenAll_42 rfl lN_X1_95 (ok_X7_at (n := 34) (by decide) rfl rfl) rfl (by decide) rfl (Nat.le_of_ble_eq_true rfl) ?_
      show jv_V E 45 [some (.ref 24), some (.int (jv_b v1)), some (.int v2), some (.int (jv_rd (σ.1 25) 34 0 v2)), some (.int (jv_rd (σ.1 26) 34 0 v2))] [.int (jv_rd (σ.1 28) 34 0 v2), .int (jv_rd (σ.1 29) 34 0 v2)] σ
      obtain ⟨q3, hq3, h⟩ := jv_lt_eq h
      have kq3 : jv_V E 77 [some (.ref 24), some (.int (jv_b q3.1)), some (.int v2), some (.int (jv_rd (σ.1 25) 34 0 v2)), some (.int (jv_rd (σ.1 26) 34 0 v2))] [] q3.2 := by
        refine jv_aload_n (x := 24) (pc' := 78) hE dX1_cheapenAll_77 rfl 0 rfl rfl ?_
        refine jv_get (v := .ref 29) (pc' := 81) hE dX1_cheapenAll_78 rfl lF_X1_24 rfl rfl rfl ?_
        refine jv_iload_n (x := v2) (pc' := 82) hE dX1_cheapenAll_81 rfl 2 rfl rfl ?_
        refine jv_callN (pc' := 85) (o := some (.int (jv_rd (q3.2.1 29) 34 0 v2))) (σ' := q3.2) hE dX1_cheapenAll_82 rfl lN_X1_95 (ok_X7_at (n := 34) (by decide) rfl rfl) rfl (by decide) rfl (Nat.le_of_ble_eq_true rfl) ?_
        show jv_V E 85 [some (.ref 24), some (.int (jv_b q3.1)), some (.int v2), some (.int (jv_rd (σ.1 25) 34 0 v2)), some (.int (jv_rd (σ.1 26) 34 0 v2))] [.int (jv_rd (q3.2.1 29) 34 0 v2)] q3.2
        obtain ⟨q9, hq9, h⟩ := jv_lt_eq h
        have kq9 : jv_V E 118 [some (.ref 24), some (.int (jv_b q9.1)), some (.int v2), none, none] [] q9.2 := by
          refine jv_iinc (x := v2) (v := (v2 + (1 : Int32))) (L' := [some (.ref 24), some (.int (jv_b q9.1)), some (.int (v2 + (1 : Int32))), none, none]) (pc' := 121) hE dX1_cheapenAll_118 rfl rfl rfl (by decide) rfl rfl ?_
          refine jv_goto (tgt := 4) hE dX1_cheapenAll_121 (by decide) ?_
          exact jv_forget [true, true, true, true, true] (ih q9.1 (v2 + (1 : Int32)) q9.2 _ h hk)
        refine jv_if_le (x := (jv_rd (q3.2.1 29) 34 0 v2)) (tgt := 118) (pc' := 88) hE dX1_cheapenAll_85 (by decide) rfl (fun c8 => ?_) (fun c8 => ?_)
        · rw [if_pos c8] at hq9
          cases hq9
          exact jv_forget [true, true, true, false, false] kq9
        · rw [if_neg c8] at hq9
          refine jv_aload_n (x := 24) (pc' := 89) hE dX1_cheapenAll_88 rfl 0 rfl rfl ?_
          refine jv_iload_n (x := (jv_rd (σ.1 25) 34 0 v2)) (pc' := 90) hE dX1_cheapenAll_89 rfl 3 rfl rfl ?_
          refine jv_iload (x := (jv_rd (σ.1 26) 34 0 v2)) (pc' := 92) hE dX1_cheapenAll_90 rfl rfl ?_
          refine jv_aload_n (x := 24) (pc' := 93) hE dX1_cheapenAll_92 rfl 0 rfl rfl ?_
          refine jv_get (v := .ref 27) (pc' := 96) hE dX1_cheapenAll_93 rfl lF_X1_18 rfl rfl rfl ?_
          refine jv_iload_n (x := v2) (pc' := 97) hE dX1_cheapenAll_96 rfl 2 rfl rfl ?_
          refine jv_callN (pc' := 100) (o := some (.int (jv_rd (q3.2.1 27) 34 0 v2))) (σ' := q3.2) hE dX1_cheapenAll_97 rfl lN_X1_95 (ok_X7_at (n := 34) (by decide) rfl rfl) rfl (by decide) rfl (Nat.le_of_ble_eq_true rfl) ?_
          show jv_V E 100 [some (.ref 24), some (.int (jv_b q3.1)), some (.int v2), some (.int (jv_rd (σ.1 25) 34 0 v2)), some (.int (jv_rd (σ.1 26) 34 0 v2))] [.int (jv_rd (q3.2.1 27) 34 0 v2), .int (jv_rd (σ.1 26) 34 0 v2), .int (jv_rd (σ.1 25) 34 0 v2), .ref 24] q3.2
          refine jv_ineg (x := (jv_rd (q3.2.1 27) 34 0 v2)) (pc' := 101) hE dX1_cheapenAll_100 rfl ?_
          refine jv_iload_n (x := v2) (pc' := 102) hE dX1_cheapenAll_101 rfl 2 rfl rfl ?_
          obtain ⟨q10, hq10, hq9⟩ := jv_lt_eq hq9
          refine jv_callV (pc' := 105) (o := some (.int (jv_b q10.1))) (σ' := q10.2) hE dX1_cheapenAll_102 rfl lV_X1_102 (ok_X1_reach hq10) rfl rfl rfl (by decide) rfl (Nat.le_of_ble_eq_true rfl) ?_
          show jv_V E 105 [some (.ref 24), some (.int (jv_b q3.1)), some (.int v2), some (.int (jv_rd (σ.1 25) 34 0 v2)), some (.int (jv_rd (σ.1 26) 34 0 v2))] [.int (jv_b q10.1)] q10.2
          obtain ⟨q12, hq12, hq9⟩ := jv_lt_eq hq9
          have kq12 : jv_V E 117 [some (.ref 24), none, some (.int v2), none, none] [.int (jv_b q12)] q10.2 := by
            refine jv_istore_n (x := (jv_b q12)) (L' := [some (.ref 24), some (.int (jv_b q12)), some (.int v2), none, none]) (pc' := 118) hE dX1_cheapenAll_117 rfl 1 rfl (by decide) rfl rfl ?_
            cases hq9
            exact jv_forget [true, true, true, true, true] kq9
          refine jv_if_ne (x := (jv_b q10.1)) (tgt := 112) (pc' := 108) hE dX1_cheapenAll_105 (by decide) rfl (fun c11 => ?_) (fun c11 => ?_)
          · have c11 := jv_b1 c11
            rw [if_pos c11] at hq12
            refine jv_iconst (v := (1 : Int32)) (pc' := 113) hE dX1_cheapenAll_112 rfl (by decide) ?_
            refine jv_goto (tgt := 117) hE dX1_cheapenAll_113 (by decide) ?_
            cases hq12
            exact jv_forget [true, false, true, false, false] kq12
          · have c11 := jv_b0 c11
            rw [if_neg c11] at hq12
            refine jv_iload_n (x := (jv_b q3.1)) (pc' := 109) hE dX1_cheapenAll_108 rfl 1 rfl rfl ?_
            refine jv_if_eq (x := (jv_b q3.1)) (tgt := 116) (pc' := 112) hE dX1_cheapenAll_109 (by decide) rfl (fun c13 => ?_) (fun c13 => ?_)
            · have c13 := jv_b0 c13
              rw [if_neg c13] at hq12
              refine jv_iconst (v := (0 : Int32)) (pc' := 117) hE dX1_cheapenAll_116 rfl (by decide) ?_
              cases hq12
              exact jv_forget [true, false, true, false, false] kq12
            · have c13 := jv_b1 c13
              rw [if_pos c13] at hq12
              refine jv_iconst (v := (1 : Int32)) (pc' := 113) hE dX1_cheapenAll_112 rfl (by decide) ?_
              refine jv_goto (tgt := 117) hE dX1_cheapenAll_113 (by decide) ?_
              cases hq12
              exact jv_forget [true, false, true, false, false] kq12
      refine jv_icmp_ge (x := (jv_rd (σ.1 29) 34 0 v2)) (y := (jv_rd (σ.1 28) 34 0 v2)) (tgt := 77) (pc' := 48) hE dX1_cheapenAll_45 (by decide) rfl (fun c2 => ?_) (fun c2 => ?_)
      · rw [if_pos c2] at hq3
        cases hq3
        exact jv_forget [true, true, true, true, true] kq3
      · rw [if_neg c2] at hq3
        refine jv_aload_n (x := 24) (pc' := 49) hE dX1_cheapenAll_48 rfl 0 rfl rfl ?_
        refine jv_iload (x := (jv_rd (σ.1 26) 34 0 v2)) (pc' := 51) hE dX1_cheapenAll_49 rfl rfl ?_
        refine jv_iload_n (x := (jv_rd (σ.1 25) 34 0 v2)) (pc' := 52) hE dX1_cheapenAll_51 rfl 3 rfl rfl ?_
        refine jv_aload_n (x := 24) (pc' := 53) hE dX1_cheapenAll_52 rfl 0 rfl rfl ?_
        refine jv_get (v := .ref 27) (pc' := 56) hE dX1_cheapenAll_53 rfl lF_X1_18 rfl rfl rfl ?_
        refine jv_iload_n (x := v2) (pc' := 57) hE dX1_cheapenAll_56 rfl 2 rfl rfl ?_
        refine jv_callN (pc' := 60) (o := some (.int (jv_rd (σ.1 27) 34 0 v2))) (σ' := σ) hE dX1_cheapenAll_57 rfl lN_X1_95 (ok_X7_at (n := 34) (by decide) rfl rfl) rfl (by decide) rfl (Nat.le_of_ble_eq_true rfl) ?_
        show jv_V E 60 [some (.ref 24), some (.int (jv_b v1)), some (.int v2), some (.int (jv_rd (σ.1 25) 34 0 v2)), some (.int (jv_rd (σ.1 26) 34 0 v2))] [.int (jv_rd (σ.1 27) 34 0 v2), .int (jv_rd (σ.1 25) 34 0 v2), .int (jv_rd (σ.1 26) 34 0 v2), .ref 24] σ
        refine jv_iload_n (x := v2) (pc' := 61) hE dX1_cheapenAll_60 rfl 2 rfl rfl ?_
        obtain ⟨q4, hq4, hq3⟩ := jv_lt_eq hq3
        refine jv_callV (pc' := 64) (o := some (.int (jv_b q4.1))) (σ' := q4.2) hE dX1_cheapenAll_61 rfl lV_X1_102 (ok_X1_reach hq4) rfl rfl rfl (by decide) rfl (Nat.le_of_ble_eq_true rfl) ?_
        show jv_V E 64 [some (.ref 24), some (.int (jv_b v1)), some (.int v2), some (.int (jv_rd (σ.1 25) 34 0 v2)), some (.int (jv_rd (σ.1 26) 34 0 v2))] [.int (jv_b q4.1)] q4.2
        obtain ⟨q6, hq6, hq3⟩ := jv_lt_eq hq3
        have kq6 : jv_V E 76 [some (.ref 24), none, some (.int v2), some (.int (jv_rd (σ.1 25) 34 0 v2)), some (.int (jv_rd (σ.1 26) 34 0 v2))] [.int (jv_b q6)] q4.2 := by
          refine jv_istore_n (x := (jv_b q6)) (L' := [some (.ref 24), some (.int (jv_b q6)), some (.int v2), some (.int (jv_rd (σ.1 25) 34 0 v2)), some (.int (jv_rd (σ.1 26) 34 0 v2))]) (pc' := 77) hE dX1_cheapenAll_76 rfl 1 rfl (by decide) rfl rfl ?_
          cases hq3
          exact jv_forget [true, true, true, true, true] kq3
        refine jv_if_ne (x := (jv_b q4.1)) (tgt := 71) (pc' := 67) hE dX1_cheapenAll_64 (by decide) rfl (fun c5 => ?_) (fun c5 => ?_)
        · have c5 := jv_b1 c5
          rw [if_pos c5] at hq6
          refine jv_iconst (v := (1 : Int32)) (pc' := 72) hE dX1_cheapenAll_71 rfl (by decide) ?_
          refine jv_goto (tgt := 76) hE dX1_cheapenAll_72 (by decide) ?_
          cases hq6
          exact jv_forget [true, false, true, true, true] kq6
        · have c5 := jv_b0 c5
          rw [if_neg c5] at hq6
          refine jv_iload_n (x := (jv_b v1)) (pc' := 68) hE dX1_cheapenAll_67 rfl 1 rfl rfl ?_
          refine jv_if_eq (x := (jv_b v1)) (tgt := 75) (pc' := 71) hE dX1_cheapenAll_68 (by decide) rfl (fun c7 => ?_) (fun c7 => ?_)
          · have c7 := jv_b0 c7
            rw [if_neg c7] at hq6
            refine jv_iconst (v := (0 : Int32)) (pc' := 76) hE dX1_cheapenAll_75 rfl (by decide) ?_
            cases hq6
            exact jv_forget [true, false, true, true, true] kq6
          · have c7 := jv_b1 c7
            rw [if_pos c7] at hq6
            refine jv_iconst (v := (1 : Int32)) (pc' := 72) hE dX1_cheapenAll_71 rfl (by decide) ?_
            refine jv_goto (tgt := 76) hE dX1_cheapenAll_72 (by decide) ?_
            cases hq6
            exact jv_forget [true, false, true, true, true] kq6
set_option maxRecDepth 100000 in
set_option maxHeartbeats 4000000 in
theorem ok_X1_cheapenAll {G : jv_G} {l : Launch} {σ : jv_S} {r : Bool × jv_S} (h : f_X1_cheapenAll σ = some r) : jv_Cn G l 3 M_X1_cheapenAll [.ref 24] σ (some (.int (jv_b r.1))) r.2 := by
  refine jv_of (L0 := [some (.ref 24), none, none, none, none]) (by decide +kernel) (Nat.le_of_ble_eq_true rfl) rfl (jv_okZ _) (fun E e1 e2 hE hret => ?_)
  unfold f_X1_cheapenAll at h
  refine jv_iconst (v := (0 : Int32)) (pc' := 1) hE dX1_cheapenAll_0 rfl (by decide) ?_
  refine jv_istore_n (x := (0 : Int32)) (L' := [some (.ref 24), some (.int (0 : Int32)), none, none, none]) (pc' := 2) hE dX1_cheapenAll_1 rfl 1 rfl (by decide) rfl rfl ?_
  refine jv_iconst (v := (0 : Int32)) (pc' := 3) hE dX1_cheapenAll_2 rfl (by decide) ?_
  refine jv_istore_n (x := (0 : Int32)) (L' := [some (.ref 24), some (.int (0 : Int32)), some (.int (0 : Int32)), none, none]) (pc' := 4) hE dX1_cheapenAll_3 rfl 2 rfl (by decide) rfl rfl ?_
  obtain ⟨q14, hq14, h⟩ := jv_bd_some h
  refine jv_forget [true, true, true, true, true] (lp_X1_cheapenAll_4 hE jv_fuel false (0 : Int32) σ _ hq14 ?_)
  refine jv_iload_n (x := (jv_b q14.1)) (pc' := 125) hE dX1_cheapenAll_124 rfl 1 rfl rfl ?_
  cases h
  exact hret _ _ dX1_cheapenAll_125
noncomputable def f_X1_send_lp7 : Nat → Int32 → Int32 → jv_S → Option (Int32 × Int32 × jv_S)
  | 0, _, _, _ => none
  | n + 1, v1, v2, σ => if (20 : Int32) ≤ v2 then (some (v1, v2, σ)) else (if v1 = (σ.1 24 8) then (some (v1, v2, σ)) else (jv_lt (if (jv_rd (σ.1 26) 34 0 (jv_rd (σ.1 31) 20 0 v1)) = v1 then (true) else (false)) (fun q4 => jv_lt (if q4 = true then ((1 : Int32)) else ((-1 : Int32))) (fun q6 => jv_lt (if q4 = true then ((jv_rd ((jv_wr σ 29 34 (jv_rd (σ.1 31) 20 0 v1) ((jv_rd (σ.1 29) 34 0 (jv_rd (σ.1 31) 20 0 v1)) + q6)).1 25) 34 0 (jv_rd (σ.1 31) 20 0 v1))) else ((jv_rd ((jv_wr σ 29 34 (jv_rd (σ.1 31) 20 0 v1) ((jv_rd (σ.1 29) 34 0 (jv_rd (σ.1 31) 20 0 v1)) + q6)).1 26) 34 0 (jv_rd (σ.1 31) 20 0 v1)))) (fun q8 => f_X1_send_lp7 n q8 (v2 + (1 : Int32)) (jv_wr σ 29 34 (jv_rd (σ.1 31) 20 0 v1) ((jv_rd (σ.1 29) 34 0 (jv_rd (σ.1 31) 20 0 v1)) + q6)))))))
noncomputable def f_X1_send (σ : jv_S) : Option (jv_S) := jv_bd (f_X1_send_lp7 jv_fuel (σ.1 24 9) (0 : Int32) σ) (fun q9 => some q9.2.2)
set_option maxRecDepth 100000 in
set_option maxHeartbeats 4000000 in
theorem lp_X1_send_7 {E : jv_E} (hE : jv_Cx E RX1 cX1_send 5 2) : ∀ (n : Nat) (v1 : Int32) (v2 : Int32) (σ : jv_S) (q : Int32 × Int32 × jv_S), f_X1_send_lp7 n v1 v2 σ = some q → (jv_V E 107 [none, none, none, none, none] [] q.2.2) → jv_V E 7 [some (.ref 24), some (.int v1), some (.int v2), none, none] [] σ := by
  intro n
  induction n with
  | zero =>
    intro v1 v2 σ q h
    rw [f_X1_send_lp7] at h
    cases h
  | succ n ih =>
    intro v1 v2 σ q h hk
    rw [f_X1_send_lp7] at h
    refine jv_iload_n (x := v2) (pc' := 8) hE dX1_send_7 rfl 2 rfl rfl ?_
    refine jv_bipush (v := (20 : Int32)) (pc' := 10) hE dX1_send_8 rfl (by decide) ?_
    refine jv_icmp_ge (x := v2) (y := (20 : Int32)) (tgt := 107) (pc' := 13) hE dX1_send_10 (by decide) rfl (fun c1 => ?_) (fun c1 => ?_)
    · rw [if_pos c1] at h
      cases h
      exact jv_forget [false, false, false, true, true] hk
    · rw [if_neg c1] at h
      refine jv_iload_n (x := v1) (pc' := 14) hE dX1_send_13 rfl 1 rfl rfl ?_
      refine jv_aload_n (x := 24) (pc' := 15) hE dX1_send_14 rfl 0 rfl rfl ?_
      refine jv_get (v := .int (σ.1 24 8)) (pc' := 18) hE dX1_send_15 rfl lF_X1_50 rfl rfl rfl ?_
      refine jv_icmp_eq (x := v1) (y := (σ.1 24 8)) (tgt := 107) (pc' := 21) hE dX1_send_18 (by decide) rfl (fun c2 => ?_) (fun c2 => ?_)
      · rw [if_pos c2] at h
        cases h
        exact jv_forget [false, false, false, true, true] hk
      · rw [if_neg c2] at h
        refine jv_aload_n (x := 24) (pc' := 22) hE dX1_send_21 rfl 0 rfl rfl ?_
        refine jv_get (v := .ref 31) (pc' := 25) hE dX1_send_22 rfl lF_X1_30 rfl rfl rfl ?_
        refine jv_iload_n (x := v1) (pc' := 26) hE dX1_send_25 rfl 1 rfl rfl ?_
        refine jv_callN (pc' := 29) (o := some (.int (jv_rd (σ.1 31) 20 0 v1))) (σ' := σ) hE dX1_send_26 rfl lN_X1_95 (ok_X7_at (n := 20) (by decide) rfl rfl) rfl (by decide) rfl (Nat.le_of_ble_eq_true rfl) ?_
        show jv_V E 29 [some (.ref 24), some (.int v1), some (.int v2), none, none] [.int (jv_rd (σ.1 31) 20 0 v1)] σ
        refine jv_istore_n (x := (jv_rd (σ.1 31) 20 0 v1)) (L' := [some (.ref 24), some (.int v1), some (.int v2), some (.int (jv_rd (σ.1 31) 20 0 v1)), none]) (pc' := 30) hE dX1_send_29 rfl 3 rfl (by decide) rfl rfl ?_
        refine jv_aload_n (x := 24) (pc' := 31) hE dX1_send_30 rfl 0 rfl rfl ?_
        refine jv_get (v := .ref 26) (pc' := 34) hE dX1_send_31 rfl lF_X1_15 rfl rfl rfl ?_
        refine jv_iload_n (x := (jv_rd (σ.1 31) 20 0 v1)) (pc' := 35) hE dX1_send_34 rfl 3 rfl rfl ?_
        refine jv_callN (pc' := 38) (o := some (.int (jv_rd (σ.1 26) 34 0 (jv_rd (σ.1 31) 20 0 v1)))) (σ' := σ) hE dX1_send_35 rfl lN_X1_95 (ok_X7_at (n := 34) (by decide) rfl rfl) rfl (by decide) rfl (Nat.le_of_ble_eq_true rfl) ?_
        show jv_V E 38 [some (.ref 24), some (.int v1), some (.int v2), some (.int (jv_rd (σ.1 31) 20 0 v1)), none] [.int (jv_rd (σ.1 26) 34 0 (jv_rd (σ.1 31) 20 0 v1))] σ
        refine jv_iload_n (x := v1) (pc' := 39) hE dX1_send_38 rfl 1 rfl rfl ?_
        obtain ⟨q4, hq4, h⟩ := jv_lt_eq h
        have kq4 : jv_V E 47 [some (.ref 24), none, some (.int v2), some (.int (jv_rd (σ.1 31) 20 0 v1)), none] [.int (jv_b q4)] σ := by
          refine jv_istore (x := (jv_b q4)) (L' := [some (.ref 24), none, some (.int v2), some (.int (jv_rd (σ.1 31) 20 0 v1)), some (.int (jv_b q4))]) (pc' := 49) hE dX1_send_47 rfl (by decide) rfl rfl ?_
          refine jv_aload_n (x := 24) (pc' := 50) hE dX1_send_49 rfl 0 rfl rfl ?_
          refine jv_get (v := .ref 29) (pc' := 53) hE dX1_send_50 rfl lF_X1_24 rfl rfl rfl ?_
          refine jv_iload_n (x := (jv_rd (σ.1 31) 20 0 v1)) (pc' := 54) hE dX1_send_53 rfl 3 rfl rfl ?_
          refine jv_aload_n (x := 24) (pc' := 55) hE dX1_send_54 rfl 0 rfl rfl ?_
          refine jv_get (v := .ref 29) (pc' := 58) hE dX1_send_55 rfl lF_X1_24 rfl rfl rfl ?_
          refine jv_iload_n (x := (jv_rd (σ.1 31) 20 0 v1)) (pc' := 59) hE dX1_send_58 rfl 3 rfl rfl ?_
          refine jv_callN (pc' := 62) (o := some (.int (jv_rd (σ.1 29) 34 0 (jv_rd (σ.1 31) 20 0 v1)))) (σ' := σ) hE dX1_send_59 rfl lN_X1_95 (ok_X7_at (n := 34) (by decide) rfl rfl) rfl (by decide) rfl (Nat.le_of_ble_eq_true rfl) ?_
          show jv_V E 62 [some (.ref 24), none, some (.int v2), some (.int (jv_rd (σ.1 31) 20 0 v1)), some (.int (jv_b q4))] [.int (jv_rd (σ.1 29) 34 0 (jv_rd (σ.1 31) 20 0 v1)), .int (jv_rd (σ.1 31) 20 0 v1), .ref 29] σ
          refine jv_iload (x := (jv_b q4)) (pc' := 64) hE dX1_send_62 rfl rfl ?_
          obtain ⟨q6, hq6, h⟩ := jv_lt_eq h
          have kq6 : jv_V E 72 [some (.ref 24), none, some (.int v2), some (.int (jv_rd (σ.1 31) 20 0 v1)), some (.int (jv_b q4))] [.int q6, .int (jv_rd (σ.1 29) 34 0 (jv_rd (σ.1 31) 20 0 v1)), .int (jv_rd (σ.1 31) 20 0 v1), .ref 29] σ := by
            refine jv_iadd (x := (jv_rd (σ.1 29) 34 0 (jv_rd (σ.1 31) 20 0 v1))) (y := q6) (pc' := 73) hE dX1_send_72 rfl ?_
            refine jv_callN (pc' := 76) (o := none) (σ' := (jv_wr σ 29 34 (jv_rd (σ.1 31) 20 0 v1) ((jv_rd (σ.1 29) 34 0 (jv_rd (σ.1 31) 20 0 v1)) + q6))) hE dX1_send_73 rfl lN_X1_87 (ok_X7_put (n := 34) (by decide) rfl rfl) rfl (by decide) rfl (Nat.le_of_ble_eq_true rfl) ?_
            show jv_V E 76 [some (.ref 24), none, some (.int v2), some (.int (jv_rd (σ.1 31) 20 0 v1)), some (.int (jv_b q4))] [] (jv_wr σ 29 34 (jv_rd (σ.1 31) 20 0 v1) ((jv_rd (σ.1 29) 34 0 (jv_rd (σ.1 31) 20 0 v1)) + q6))
            refine jv_iload (x := (jv_b q4)) (pc' := 78) hE dX1_send_76 rfl rfl ?_
            obtain ⟨q8, hq8, h⟩ := jv_lt_eq h
            have kq8 : jv_V E 100 [some (.ref 24), none, some (.int v2), none, none] [.int q8] (jv_wr σ 29 34 (jv_rd (σ.1 31) 20 0 v1) ((jv_rd (σ.1 29) 34 0 (jv_rd (σ.1 31) 20 0 v1)) + q6)) := by
              refine jv_istore_n (x := q8) (L' := [some (.ref 24), some (.int q8), some (.int v2), none, none]) (pc' := 101) hE dX1_send_100 rfl 1 rfl (by decide) rfl rfl ?_
              refine jv_iinc (x := v2) (v := (v2 + (1 : Int32))) (L' := [some (.ref 24), some (.int q8), some (.int (v2 + (1 : Int32))), none, none]) (pc' := 104) hE dX1_send_101 rfl rfl rfl (by decide) rfl rfl ?_
              refine jv_goto (tgt := 7) hE dX1_send_104 (by decide) ?_
              exact jv_forget [true, true, true, true, true] (ih q8 (v2 + (1 : Int32)) (jv_wr σ 29 34 (jv_rd (σ.1 31) 20 0 v1) ((jv_rd (σ.1 29) 34 0 (jv_rd (σ.1 31) 20 0 v1)) + q6)) _ h hk)
            refine jv_if_eq (x := (jv_b q4)) (tgt := 92) (pc' := 81) hE dX1_send_78 (by decide) rfl (fun c7 => ?_) (fun c7 => ?_)
            · have c7 := jv_b0 c7
              rw [if_neg c7] at hq8
              refine jv_aload_n (x := 24) (pc' := 93) hE dX1_send_92 rfl 0 rfl rfl ?_
              refine jv_get (v := .ref 26) (pc' := 96) hE dX1_send_93 rfl lF_X1_15 rfl rfl rfl ?_
              refine jv_iload_n (x := (jv_rd (σ.1 31) 20 0 v1)) (pc' := 97) hE dX1_send_96 rfl 3 rfl rfl ?_
              refine jv_callN (pc' := 100) (o := some (.int (jv_rd ((jv_wr σ 29 34 (jv_rd (σ.1 31) 20 0 v1) ((jv_rd (σ.1 29) 34 0 (jv_rd (σ.1 31) 20 0 v1)) + q6)).1 26) 34 0 (jv_rd (σ.1 31) 20 0 v1)))) (σ' := (jv_wr σ 29 34 (jv_rd (σ.1 31) 20 0 v1) ((jv_rd (σ.1 29) 34 0 (jv_rd (σ.1 31) 20 0 v1)) + q6))) hE dX1_send_97 rfl lN_X1_95 (ok_X7_at (n := 34) (by decide) rfl rfl) rfl (by decide) rfl (Nat.le_of_ble_eq_true rfl) ?_
              show jv_V E 100 [some (.ref 24), none, some (.int v2), some (.int (jv_rd (σ.1 31) 20 0 v1)), some (.int (jv_b q4))] [.int (jv_rd ((jv_wr σ 29 34 (jv_rd (σ.1 31) 20 0 v1) ((jv_rd (σ.1 29) 34 0 (jv_rd (σ.1 31) 20 0 v1)) + q6)).1 26) 34 0 (jv_rd (σ.1 31) 20 0 v1))] (jv_wr σ 29 34 (jv_rd (σ.1 31) 20 0 v1) ((jv_rd (σ.1 29) 34 0 (jv_rd (σ.1 31) 20 0 v1)) + q6))
              cases hq8
              exact jv_forget [true, true, true, false, false] kq8
            · have c7 := jv_b1 c7
              rw [if_pos c7] at hq8
              refine jv_aload_n (x := 24) (pc' := 82) hE dX1_send_81 rfl 0 rfl rfl ?_
              refine jv_get (v := .ref 25) (pc' := 85) hE dX1_send_82 rfl lF_X1_11 rfl rfl rfl ?_
              refine jv_iload_n (x := (jv_rd (σ.1 31) 20 0 v1)) (pc' := 86) hE dX1_send_85 rfl 3 rfl rfl ?_
              refine jv_callN (pc' := 89) (o := some (.int (jv_rd ((jv_wr σ 29 34 (jv_rd (σ.1 31) 20 0 v1) ((jv_rd (σ.1 29) 34 0 (jv_rd (σ.1 31) 20 0 v1)) + q6)).1 25) 34 0 (jv_rd (σ.1 31) 20 0 v1)))) (σ' := (jv_wr σ 29 34 (jv_rd (σ.1 31) 20 0 v1) ((jv_rd (σ.1 29) 34 0 (jv_rd (σ.1 31) 20 0 v1)) + q6))) hE dX1_send_86 rfl lN_X1_95 (ok_X7_at (n := 34) (by decide) rfl rfl) rfl (by decide) rfl (Nat.le_of_ble_eq_true rfl) ?_
              show jv_V E 89 [some (.ref 24), none, some (.int v2), some (.int (jv_rd (σ.1 31) 20 0 v1)), some (.int (jv_b q4))] [.int (jv_rd ((jv_wr σ 29 34 (jv_rd (σ.1 31) 20 0 v1) ((jv_rd (σ.1 29) 34 0 (jv_rd (σ.1 31) 20 0 v1)) + q6)).1 25) 34 0 (jv_rd (σ.1 31) 20 0 v1))] (jv_wr σ 29 34 (jv_rd (σ.1 31) 20 0 v1) ((jv_rd (σ.1 29) 34 0 (jv_rd (σ.1 31) 20 0 v1)) + q6))
              refine jv_goto (tgt := 100) hE dX1_send_89 (by decide) ?_
              cases hq8
              exact jv_forget [true, true, true, false, false] kq8
          refine jv_if_eq (x := (jv_b q4)) (tgt := 71) (pc' := 67) hE dX1_send_64 (by decide) rfl (fun c5 => ?_) (fun c5 => ?_)
          · have c5 := jv_b0 c5
            rw [if_neg c5] at hq6
            refine jv_iconst (v := (-1 : Int32)) (pc' := 72) hE dX1_send_71 rfl (by decide) ?_
            cases hq6
            exact jv_forget [true, true, true, true, true] kq6
          · have c5 := jv_b1 c5
            rw [if_pos c5] at hq6
            refine jv_iconst (v := (1 : Int32)) (pc' := 68) hE dX1_send_67 rfl (by decide) ?_
            refine jv_goto (tgt := 72) hE dX1_send_68 (by decide) ?_
            cases hq6
            exact jv_forget [true, true, true, true, true] kq6
        refine jv_icmp_ne (x := (jv_rd (σ.1 26) 34 0 (jv_rd (σ.1 31) 20 0 v1))) (y := v1) (tgt := 46) (pc' := 42) hE dX1_send_39 (by decide) rfl (fun c3 => ?_) (fun c3 => ?_)
        · rw [if_neg c3] at hq4
          refine jv_iconst (v := (0 : Int32)) (pc' := 47) hE dX1_send_46 rfl (by decide) ?_
          cases hq4
          exact jv_forget [true, false, true, true, true] kq4
        · rw [if_pos c3] at hq4
          refine jv_iconst (v := (1 : Int32)) (pc' := 43) hE dX1_send_42 rfl (by decide) ?_
          refine jv_goto (tgt := 47) hE dX1_send_43 (by decide) ?_
          cases hq4
          exact jv_forget [true, false, true, true, true] kq4
set_option maxRecDepth 100000 in
set_option maxHeartbeats 4000000 in
theorem ok_X1_send {G : jv_G} {l : Launch} {σ : jv_S} {r : jv_S} (h : f_X1_send σ = some r) : jv_Cn G l 2 M_X1_send [.ref 24] σ (none) r := by
  refine jv_of (L0 := [some (.ref 24), none, none, none, none]) (by decide +kernel) (Nat.le_of_ble_eq_true rfl) rfl jv_okV (fun E e1 e2 hE hret => ?_)
  unfold f_X1_send at h
  refine jv_aload_n (x := 24) (pc' := 1) hE dX1_send_0 rfl 0 rfl rfl ?_
  refine jv_get (v := .int (σ.1 24 9)) (pc' := 4) hE dX1_send_1 rfl lF_X1_57 rfl rfl rfl ?_
  refine jv_istore_n (x := (σ.1 24 9)) (L' := [some (.ref 24), some (.int (σ.1 24 9)), none, none, none]) (pc' := 5) hE dX1_send_4 rfl 1 rfl (by decide) rfl rfl ?_
  refine jv_iconst (v := (0 : Int32)) (pc' := 6) hE dX1_send_5 rfl (by decide) ?_
  refine jv_istore_n (x := (0 : Int32)) (L' := [some (.ref 24), some (.int (σ.1 24 9)), some (.int (0 : Int32)), none, none]) (pc' := 7) hE dX1_send_6 rfl 2 rfl (by decide) rfl rfl ?_
  obtain ⟨q9, hq9, h⟩ := jv_bd_some h
  refine jv_forget [true, true, true, true, true] (lp_X1_send_7 hE jv_fuel (σ.1 24 9) (0 : Int32) σ _ hq9 ?_)
  cases h
  exact hret _ _ dX1_send_107
noncomputable def f_X1_addPath_lp25 : Nat → Bool → Int32 → jv_S → Option (Bool × Int32 × jv_S)
  | 0, _, _, _ => none
  | n + 1, v1, v2, σ => if (20 : Int32) ≤ v2 then (some (v1, v2, σ)) else (if v1 = true then (jv_bd (f_X1_cheapenAll σ) (fun q3 => f_X1_addPath_lp25 n q3.1 (v2 + (1 : Int32)) q3.2)) else (some (v1, v2, σ)))
noncomputable def f_X1_addPath (σ : jv_S) : Option (Int32 × jv_S) := jv_bd (f_X1_addPath_lp25 jv_fuel true (0 : Int32) (jv_wr (jv_fl σ 30 20 (1000000000 : Int32)) 30 20 ((jv_fl σ 30 20 (1000000000 : Int32)).1 24 8) (0 : Int32))) (fun q4 => jv_bd (if (1000000000 : Int32) ≤ (jv_rd (q4.2.2.1 30) 20 0 (q4.2.2.1 24 9)) then (some q4.2.2) else (jv_bd (f_X1_send q4.2.2) (fun q7 => some q7))) (fun q6 => some ((jv_rd (q4.2.2.1 30) 20 0 (q4.2.2.1 24 9)), q6)))
set_option maxRecDepth 100000 in
set_option maxHeartbeats 4000000 in
theorem lp_X1_addPath_25 {E : jv_E} (hE : jv_Cx E RX1 cX1_addPath 3 4) : ∀ (n : Nat) (v1 : Bool) (v2 : Int32) (σ : jv_S) (q : Bool × Int32 × jv_S), f_X1_addPath_lp25 n v1 v2 σ = some q → (jv_V E 46 [some (.ref 24), none, none] [] q.2.2) → jv_V E 25 [some (.ref 24), some (.int (jv_b v1)), some (.int v2)] [] σ := by
  intro n
  induction n with
  | zero =>
    intro v1 v2 σ q h
    rw [f_X1_addPath_lp25] at h
    cases h
  | succ n ih =>
    intro v1 v2 σ q h hk
    rw [f_X1_addPath_lp25] at h
    refine jv_iload_n (x := v2) (pc' := 26) hE dX1_addPath_25 rfl 2 rfl rfl ?_
    refine jv_bipush (v := (20 : Int32)) (pc' := 28) hE dX1_addPath_26 rfl (by decide) ?_
    refine jv_icmp_ge (x := v2) (y := (20 : Int32)) (tgt := 46) (pc' := 31) hE dX1_addPath_28 (by decide) rfl (fun c1 => ?_) (fun c1 => ?_)
    · rw [if_pos c1] at h
      cases h
      exact jv_forget [true, false, false] hk
    · rw [if_neg c1] at h
      refine jv_iload_n (x := (jv_b v1)) (pc' := 32) hE dX1_addPath_31 rfl 1 rfl rfl ?_
      refine jv_if_eq (x := (jv_b v1)) (tgt := 46) (pc' := 35) hE dX1_addPath_32 (by decide) rfl (fun c2 => ?_) (fun c2 => ?_)
      · have c2 := jv_b0 c2
        rw [if_neg c2] at h
        cases h
        exact jv_forget [true, false, false] hk
      · have c2 := jv_b1 c2
        rw [if_pos c2] at h
        refine jv_aload_n (x := 24) (pc' := 36) hE dX1_addPath_35 rfl 0 rfl rfl ?_
        obtain ⟨q3, hq3, h⟩ := jv_bd_some h
        refine jv_callV (pc' := 39) (o := some (.int (jv_b q3.1))) (σ' := q3.2) hE dX1_addPath_36 rfl lV_X1_91 (ok_X1_cheapenAll hq3) rfl rfl rfl (by decide) rfl (Nat.le_of_ble_eq_true rfl) ?_
        show jv_V E 39 [some (.ref 24), some (.int (jv_b v1)), some (.int v2)] [.int (jv_b q3.1)] q3.2
        refine jv_istore_n (x := (jv_b q3.1)) (L' := [some (.ref 24), some (.int (jv_b q3.1)), some (.int v2)]) (pc' := 40) hE dX1_addPath_39 rfl 1 rfl (by decide) rfl rfl ?_
        refine jv_iinc (x := v2) (v := (v2 + (1 : Int32))) (L' := [some (.ref 24), some (.int (jv_b q3.1)), some (.int (v2 + (1 : Int32)))]) (pc' := 43) hE dX1_addPath_40 rfl rfl rfl (by decide) rfl rfl ?_
        refine jv_goto (tgt := 25) hE dX1_addPath_43 (by decide) ?_
        exact jv_forget [true, true, true] (ih q3.1 (v2 + (1 : Int32)) q3.2 _ h hk)
set_option maxRecDepth 100000 in
set_option maxHeartbeats 4000000 in
theorem ok_X1_addPath {G : jv_G} {l : Launch} {σ : jv_S} {r : Int32 × jv_S} (h : f_X1_addPath σ = some r) : jv_Cn G l 4 M_X1_addPath [.ref 24] σ (some (.int r.1)) r.2 := by
  refine jv_of (L0 := [some (.ref 24), none, none]) (by decide +kernel) (Nat.le_of_ble_eq_true rfl) rfl (jv_okI _) (fun E e1 e2 hE hret => ?_)
  unfold f_X1_addPath at h
  refine jv_aload_n (x := 24) (pc' := 1) hE dX1_addPath_0 rfl 0 rfl rfl ?_
  refine jv_get (v := .ref 30) (pc' := 4) hE dX1_addPath_1 rfl lF_X1_27 rfl rfl rfl ?_
  refine jv_ldc (v := (1000000000 : Int32)) (pc' := 6) hE dX1_addPath_4 rfl lC_X1_45 ?_
  refine jv_callS (pc' := 9) (o := none) (σ' := (jv_fl σ 30 20 (1000000000 : Int32))) hE dX1_addPath_6 rfl lS_X1_60 (ok_J7_fill_53178 (n := 20) (by decide) rfl rfl) rfl (by decide) rfl (Nat.le_of_ble_eq_true rfl) ?_
  show jv_V E 9 [some (.ref 24), none, none] [] (jv_fl σ 30 20 (1000000000 : Int32))
  refine jv_aload_n (x := 24) (pc' := 10) hE dX1_addPath_9 rfl 0 rfl rfl ?_
  refine jv_get (v := .ref 30) (pc' := 13) hE dX1_addPath_10 rfl lF_X1_27 rfl rfl rfl ?_
  refine jv_aload_n (x := 24) (pc' := 14) hE dX1_addPath_13 rfl 0 rfl rfl ?_
  refine jv_get (v := .int ((jv_fl σ 30 20 (1000000000 : Int32)).1 24 8)) (pc' := 17) hE dX1_addPath_14 rfl lF_X1_50 rfl rfl rfl ?_
  refine jv_iconst (v := (0 : Int32)) (pc' := 18) hE dX1_addPath_17 rfl (by decide) ?_
  refine jv_callN (pc' := 21) (o := none) (σ' := (jv_wr (jv_fl σ 30 20 (1000000000 : Int32)) 30 20 ((jv_fl σ 30 20 (1000000000 : Int32)).1 24 8) (0 : Int32))) hE dX1_addPath_18 rfl lN_X1_87 (ok_X7_put (n := 20) (by decide) rfl rfl) rfl (by decide) rfl (Nat.le_of_ble_eq_true rfl) ?_
  show jv_V E 21 [some (.ref 24), none, none] [] (jv_wr (jv_fl σ 30 20 (1000000000 : Int32)) 30 20 ((jv_fl σ 30 20 (1000000000 : Int32)).1 24 8) (0 : Int32))
  refine jv_iconst (v := (1 : Int32)) (pc' := 22) hE dX1_addPath_21 rfl (by decide) ?_
  refine jv_istore_n (x := (1 : Int32)) (L' := [some (.ref 24), some (.int (1 : Int32)), none]) (pc' := 23) hE dX1_addPath_22 rfl 1 rfl (by decide) rfl rfl ?_
  refine jv_iconst (v := (0 : Int32)) (pc' := 24) hE dX1_addPath_23 rfl (by decide) ?_
  refine jv_istore_n (x := (0 : Int32)) (L' := [some (.ref 24), some (.int (1 : Int32)), some (.int (0 : Int32))]) (pc' := 25) hE dX1_addPath_24 rfl 2 rfl (by decide) rfl rfl ?_
  obtain ⟨q4, hq4, h⟩ := jv_bd_some h
  refine jv_forget [true, true, true] (lp_X1_addPath_25 hE jv_fuel true (0 : Int32) (jv_wr (jv_fl σ 30 20 (1000000000 : Int32)) 30 20 ((jv_fl σ 30 20 (1000000000 : Int32)).1 24 8) (0 : Int32)) _ hq4 ?_)
  refine jv_aload_n (x := 24) (pc' := 47) hE dX1_addPath_46 rfl 0 rfl rfl ?_
  refine jv_get (v := .ref 30) (pc' := 50) hE dX1_addPath_47 rfl lF_X1_27 rfl rfl rfl ?_
  refine jv_aload_n (x := 24) (pc' := 51) hE dX1_addPath_50 rfl 0 rfl rfl ?_
  refine jv_get (v := .int (q4.2.2.1 24 9)) (pc' := 54) hE dX1_addPath_51 rfl lF_X1_57 rfl rfl rfl ?_
  refine jv_callN (pc' := 57) (o := some (.int (jv_rd (q4.2.2.1 30) 20 0 (q4.2.2.1 24 9)))) (σ' := q4.2.2) hE dX1_addPath_54 rfl lN_X1_95 (ok_X7_at (n := 20) (by decide) rfl rfl) rfl (by decide) rfl (Nat.le_of_ble_eq_true rfl) ?_
  show jv_V E 57 [some (.ref 24), none, none] [.int (jv_rd (q4.2.2.1 30) 20 0 (q4.2.2.1 24 9))] q4.2.2
  refine jv_istore_n (x := (jv_rd (q4.2.2.1 30) 20 0 (q4.2.2.1 24 9))) (L' := [some (.ref 24), none, some (.int (jv_rd (q4.2.2.1 30) 20 0 (q4.2.2.1 24 9)))]) (pc' := 58) hE dX1_addPath_57 rfl 2 rfl (by decide) rfl rfl ?_
  refine jv_iload_n (x := (jv_rd (q4.2.2.1 30) 20 0 (q4.2.2.1 24 9))) (pc' := 59) hE dX1_addPath_58 rfl 2 rfl rfl ?_
  refine jv_ldc (v := (1000000000 : Int32)) (pc' := 61) hE dX1_addPath_59 rfl lC_X1_45 ?_
  obtain ⟨q6, hq6, h⟩ := jv_bd_some h
  have kq6 : jv_V E 68 [none, none, some (.int (jv_rd (q4.2.2.1 30) 20 0 (q4.2.2.1 24 9)))] [] q6 := by
    refine jv_iload_n (x := (jv_rd (q4.2.2.1 30) 20 0 (q4.2.2.1 24 9))) (pc' := 69) hE dX1_addPath_68 rfl 2 rfl rfl ?_
    cases h
    exact hret _ _ dX1_addPath_69
  refine jv_icmp_ge (x := (jv_rd (q4.2.2.1 30) 20 0 (q4.2.2.1 24 9))) (y := (1000000000 : Int32)) (tgt := 68) (pc' := 64) hE dX1_addPath_61 (by decide) rfl (fun c5 => ?_) (fun c5 => ?_)
  · rw [if_pos c5] at hq6
    cases hq6
    exact jv_forget [false, true, true] kq6
  · rw [if_neg c5] at hq6
    refine jv_aload_n (x := 24) (pc' := 65) hE dX1_addPath_64 rfl 0 rfl rfl ?_
    obtain ⟨q7, hq7, hq6⟩ := jv_bd_some hq6
    refine jv_callV (pc' := 68) (o := none) (σ' := q7) hE dX1_addPath_65 rfl lV_X1_99 (ok_X1_send hq7) rfl rfl rfl (by decide) rfl (Nat.le_of_ble_eq_true rfl) ?_
    show jv_V E 68 [some (.ref 24), none, some (.int (jv_rd (q4.2.2.1 30) 20 0 (q4.2.2.1 24 9)))] [] q7
    cases hq6
    exact jv_forget [false, true, true] kq6
noncomputable def f_X1_leastLength_lp14 (a3 : Int32) : Nat → Int32 → Int32 → jv_S → Option (Int32 × Int32 × jv_S)
  | 0, _, _, _ => none
  | n + 1, v5, v6, σ => if a3 ≤ v6 then (some (v5, v6, σ)) else (if (1000000000 : Int32) ≤ v5 then (some (v5, v6, σ)) else (jv_bd (f_X1_addPath σ) (fun q4 => f_X1_leastLength_lp14 a3 n (v5 + q4.1) (v6 + (1 : Int32)) q4.2)))
noncomputable def f_X1_leastLength (σ : jv_S) (p1 : Int32) (p2 : Int32) (p3 : Int32) (p4 : Int32) : Option (Int32 × jv_S) := jv_bd (f_X1_layArcs σ p1 p2 p4) (fun q1 => jv_bd (f_X1_leastLength_lp14 p3 jv_fuel (0 : Int32) (0 : Int32) q1) (fun q5 => some (q5.1, q5.2.2)))
set_option maxRecDepth 100000 in
set_option maxHeartbeats 4000000 in
theorem lp_X1_leastLength_14 {a3 : Int32} {E : jv_E} (hE : jv_Cx E RX1 cX1_leastLength 7 5) : ∀ (n : Nat) (v5 : Int32) (v6 : Int32) (σ : jv_S) (q : Int32 × Int32 × jv_S), f_X1_leastLength_lp14 a3 n v5 v6 σ = some q → (jv_V E 42 [none, none, none, none, none, some (.int q.1), none] [] q.2.2) → jv_V E 14 [some (.ref 24), none, none, some (.int a3), none, some (.int v5), some (.int v6)] [] σ := by
  intro n
  induction n with
  | zero =>
    intro v5 v6 σ q h
    rw [f_X1_leastLength_lp14] at h
    cases h
  | succ n ih =>
    intro v5 v6 σ q h hk
    rw [f_X1_leastLength_lp14] at h
    refine jv_iload (x := v6) (pc' := 16) hE dX1_leastLength_14 rfl rfl ?_
    refine jv_iload_n (x := a3) (pc' := 17) hE dX1_leastLength_16 rfl 3 rfl rfl ?_
    refine jv_icmp_ge (x := v6) (y := a3) (tgt := 42) (pc' := 20) hE dX1_leastLength_17 (by decide) rfl (fun c2 => ?_) (fun c2 => ?_)
    · rw [if_pos c2] at h
      cases h
      exact jv_forget [false, true, true, false, true, true, false] hk
    · rw [if_neg c2] at h
      refine jv_iload (x := v5) (pc' := 22) hE dX1_leastLength_20 rfl rfl ?_
      refine jv_ldc (v := (1000000000 : Int32)) (pc' := 24) hE dX1_leastLength_22 rfl lC_X1_45 ?_
      refine jv_icmp_ge (x := v5) (y := (1000000000 : Int32)) (tgt := 42) (pc' := 27) hE dX1_leastLength_24 (by decide) rfl (fun c3 => ?_) (fun c3 => ?_)
      · rw [if_pos c3] at h
        cases h
        exact jv_forget [false, true, true, false, true, true, false] hk
      · rw [if_neg c3] at h
        refine jv_iload (x := v5) (pc' := 29) hE dX1_leastLength_27 rfl rfl ?_
        refine jv_aload_n (x := 24) (pc' := 30) hE dX1_leastLength_29 rfl 0 rfl rfl ?_
        obtain ⟨q4, hq4, h⟩ := jv_bd_some h
        refine jv_callV (pc' := 33) (o := some (.int q4.1)) (σ' := q4.2) hE dX1_leastLength_30 rfl lV_X1_41 (ok_X1_addPath hq4) rfl rfl rfl (by decide) rfl (Nat.le_of_ble_eq_true rfl) ?_
        show jv_V E 33 [some (.ref 24), none, none, some (.int a3), none, some (.int v5), some (.int v6)] [.int q4.1, .int v5] q4.2
        refine jv_iadd (x := v5) (y := q4.1) (pc' := 34) hE dX1_leastLength_33 rfl ?_
        refine jv_istore (x := (v5 + q4.1)) (L' := [some (.ref 24), none, none, some (.int a3), none, some (.int (v5 + q4.1)), some (.int v6)]) (pc' := 36) hE dX1_leastLength_34 rfl (by decide) rfl rfl ?_
        refine jv_iinc (x := v6) (v := (v6 + (1 : Int32))) (L' := [some (.ref 24), none, none, some (.int a3), none, some (.int (v5 + q4.1)), some (.int (v6 + (1 : Int32)))]) (pc' := 39) hE dX1_leastLength_36 rfl rfl rfl (by decide) rfl rfl ?_
        refine jv_goto (tgt := 14) hE dX1_leastLength_39 (by decide) ?_
        exact jv_forget [true, true, true, true, true, true, true] (ih (v5 + q4.1) (v6 + (1 : Int32)) q4.2 _ h hk)
set_option maxRecDepth 100000 in
set_option maxHeartbeats 4000000 in
theorem ok_X1_leastLength {G : jv_G} {l : Launch} {σ : jv_S} {p1 : Int32} {p2 : Int32} {p3 : Int32} {p4 : Int32} {r : Int32 × jv_S} (h : f_X1_leastLength σ p1 p2 p3 p4 = some r) : jv_Cn G l 5 M_X1_leastLength [.ref 24, .int p1, .int p2, .int p3, .int p4] σ (some (.int r.1)) r.2 := by
  refine jv_of (L0 := [some (.ref 24), some (.int p1), some (.int p2), some (.int p3), some (.int p4), none, none]) (by decide +kernel) (Nat.le_of_ble_eq_true rfl) rfl (jv_okI _) (fun E e1 e2 hE hret => ?_)
  unfold f_X1_leastLength at h
  refine jv_aload_n (x := 24) (pc' := 1) hE dX1_leastLength_0 rfl 0 rfl rfl ?_
  refine jv_iload_n (x := p1) (pc' := 2) hE dX1_leastLength_1 rfl 1 rfl rfl ?_
  refine jv_iload_n (x := p2) (pc' := 3) hE dX1_leastLength_2 rfl 2 rfl rfl ?_
  refine jv_iload (x := p4) (pc' := 5) hE dX1_leastLength_3 rfl rfl ?_
  obtain ⟨q1, hq1, h⟩ := jv_bd_some h
  refine jv_callV (pc' := 8) (o := none) (σ' := q1) hE dX1_leastLength_5 rfl lV_X1_37 (ok_X1_layArcs hq1) rfl rfl rfl (by decide) rfl (Nat.le_of_ble_eq_true rfl) ?_
  show jv_V E 8 [some (.ref 24), some (.int p1), some (.int p2), some (.int p3), some (.int p4), none, none] [] q1
  refine jv_iconst (v := (0 : Int32)) (pc' := 9) hE dX1_leastLength_8 rfl (by decide) ?_
  refine jv_istore (x := (0 : Int32)) (L' := [some (.ref 24), some (.int p1), some (.int p2), some (.int p3), some (.int p4), some (.int (0 : Int32)), none]) (pc' := 11) hE dX1_leastLength_9 rfl (by decide) rfl rfl ?_
  refine jv_iconst (v := (0 : Int32)) (pc' := 12) hE dX1_leastLength_11 rfl (by decide) ?_
  refine jv_istore (x := (0 : Int32)) (L' := [some (.ref 24), some (.int p1), some (.int p2), some (.int p3), some (.int p4), some (.int (0 : Int32)), some (.int (0 : Int32))]) (pc' := 14) hE dX1_leastLength_12 rfl (by decide) rfl rfl ?_
  obtain ⟨q5, hq5, h⟩ := jv_bd_some h
  refine jv_forget [true, false, false, true, false, true, true] (lp_X1_leastLength_14 hE jv_fuel (0 : Int32) (0 : Int32) q1 _ hq5 ?_)
  refine jv_iload (x := q5.1) (pc' := 44) hE dX1_leastLength_42 rfl rfl ?_
  cases h
  exact hret _ _ dX1_leastLength_44
noncomputable def f_X1_pathTotal_lp10 : Nat → Int32 → jv_S → Option (Int32 × jv_S)
  | 0, _, _ => none
  | n + 1, v4, σ => if (24 : Int32) ≤ v4 then (some (v4, σ)) else (jv_bd (f_X1_addPath σ) (fun q3 => if (1000000000 : Int32) ≤ q3.1 then (some (v4, q3.2)) else (f_X1_pathTotal_lp10 n (v4 + (1 : Int32)) q3.2)))
noncomputable def f_X1_pathTotal (σ : jv_S) (p1 : Int32) (p2 : Int32) (p3 : Int32) : Option (Int32 × jv_S) := jv_bd (f_X1_layArcs σ p1 p2 p3) (fun q1 => jv_bd (f_X1_pathTotal_lp10 jv_fuel (0 : Int32) q1) (fun q5 => some (q5.1, q5.2)))
set_option maxRecDepth 100000 in
set_option maxHeartbeats 4000000 in
theorem lp_X1_pathTotal_10 {E : jv_E} (hE : jv_Cx E RX1 cX1_pathTotal 5 5) : ∀ (n : Nat) (v4 : Int32) (σ : jv_S) (q : Int32 × jv_S), f_X1_pathTotal_lp10 n v4 σ = some q → (jv_V E 32 [none, none, none, none, some (.int q.1)] [] q.2) → jv_V E 10 [some (.ref 24), none, none, none, some (.int v4)] [] σ := by
  intro n
  induction n with
  | zero =>
    intro v4 σ q h
    rw [f_X1_pathTotal_lp10] at h
    cases h
  | succ n ih =>
    intro v4 σ q h hk
    rw [f_X1_pathTotal_lp10] at h
    refine jv_iload (x := v4) (pc' := 12) hE dX1_pathTotal_10 rfl rfl ?_
    refine jv_bipush (v := (24 : Int32)) (pc' := 14) hE dX1_pathTotal_12 rfl (by decide) ?_
    refine jv_icmp_ge (x := v4) (y := (24 : Int32)) (tgt := 32) (pc' := 17) hE dX1_pathTotal_14 (by decide) rfl (fun c2 => ?_) (fun c2 => ?_)
    · rw [if_pos c2] at h
      cases h
      exact jv_forget [false, true, true, true, true] hk
    · rw [if_neg c2] at h
      refine jv_aload_n (x := 24) (pc' := 18) hE dX1_pathTotal_17 rfl 0 rfl rfl ?_
      obtain ⟨q3, hq3, h⟩ := jv_bd_some h
      refine jv_callV (pc' := 21) (o := some (.int q3.1)) (σ' := q3.2) hE dX1_pathTotal_18 rfl lV_X1_41 (ok_X1_addPath hq3) rfl rfl rfl (by decide) rfl (Nat.le_of_ble_eq_true rfl) ?_
      show jv_V E 21 [some (.ref 24), none, none, none, some (.int v4)] [.int q3.1] q3.2
      refine jv_ldc (v := (1000000000 : Int32)) (pc' := 23) hE dX1_pathTotal_21 rfl lC_X1_45 ?_
      refine jv_icmp_ge (x := q3.1) (y := (1000000000 : Int32)) (tgt := 32) (pc' := 26) hE dX1_pathTotal_23 (by decide) rfl (fun c4 => ?_) (fun c4 => ?_)
      · rw [if_pos c4] at h
        cases h
        exact jv_forget [false, true, true, true, true] hk
      · rw [if_neg c4] at h
        refine jv_iinc (x := v4) (v := (v4 + (1 : Int32))) (L' := [some (.ref 24), none, none, none, some (.int (v4 + (1 : Int32)))]) (pc' := 29) hE dX1_pathTotal_26 rfl rfl rfl (by decide) rfl rfl ?_
        refine jv_goto (tgt := 10) hE dX1_pathTotal_29 (by decide) ?_
        exact jv_forget [true, true, true, true, true] (ih (v4 + (1 : Int32)) q3.2 _ h hk)
set_option maxRecDepth 100000 in
set_option maxHeartbeats 4000000 in
theorem ok_X1_pathTotal {G : jv_G} {l : Launch} {σ : jv_S} {p1 : Int32} {p2 : Int32} {p3 : Int32} {r : Int32 × jv_S} (h : f_X1_pathTotal σ p1 p2 p3 = some r) : jv_Cn G l 5 M_X1_pathTotal [.ref 24, .int p1, .int p2, .int p3] σ (some (.int r.1)) r.2 := by
  refine jv_of (L0 := [some (.ref 24), some (.int p1), some (.int p2), some (.int p3), none]) (by decide +kernel) (Nat.le_of_ble_eq_true rfl) rfl (jv_okI _) (fun E e1 e2 hE hret => ?_)
  unfold f_X1_pathTotal at h
  refine jv_aload_n (x := 24) (pc' := 1) hE dX1_pathTotal_0 rfl 0 rfl rfl ?_
  refine jv_iload_n (x := p1) (pc' := 2) hE dX1_pathTotal_1 rfl 1 rfl rfl ?_
  refine jv_iload_n (x := p2) (pc' := 3) hE dX1_pathTotal_2 rfl 2 rfl rfl ?_
  refine jv_iload_n (x := p3) (pc' := 4) hE dX1_pathTotal_3 rfl 3 rfl rfl ?_
  obtain ⟨q1, hq1, h⟩ := jv_bd_some h
  refine jv_callV (pc' := 7) (o := none) (σ' := q1) hE dX1_pathTotal_4 rfl lV_X1_37 (ok_X1_layArcs hq1) rfl rfl rfl (by decide) rfl (Nat.le_of_ble_eq_true rfl) ?_
  show jv_V E 7 [some (.ref 24), some (.int p1), some (.int p2), some (.int p3), none] [] q1
  refine jv_iconst (v := (0 : Int32)) (pc' := 8) hE dX1_pathTotal_7 rfl (by decide) ?_
  refine jv_istore (x := (0 : Int32)) (L' := [some (.ref 24), some (.int p1), some (.int p2), some (.int p3), some (.int (0 : Int32))]) (pc' := 10) hE dX1_pathTotal_8 rfl (by decide) rfl rfl ?_
  obtain ⟨q5, hq5, h⟩ := jv_bd_some h
  refine jv_forget [true, false, false, false, true] (lp_X1_pathTotal_10 hE jv_fuel (0 : Int32) q1 _ hq5 ?_)
  refine jv_iload (x := q5.1) (pc' := 34) hE dX1_pathTotal_32 rfl rfl ?_
  cases h
  exact hret _ _ dX1_pathTotal_34
