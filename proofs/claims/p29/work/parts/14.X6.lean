noncomputable def f_X6_entry (σ : jv_S) (p1 : Int32) (p2 : Int32) : Int32 := ((p1 * (50 : Int32)) + p2)
set_option maxRecDepth 100000 in
set_option maxHeartbeats 4000000 in
theorem ok_X6_entry {G : jv_G} {l : Launch} {σ : jv_S} {p1 : Int32} {p2 : Int32} {r : Int32} (h : f_X6_entry σ p1 p2 = r) : jv_Cn G l 1 M_X6_entry [.int p1, .int p2] σ (some (.int r)) σ := by
  refine jv_of (L0 := [some (.int p1), some (.int p2)]) (by decide +kernel) (Nat.le_of_ble_eq_true rfl) rfl (jv_okI _) (fun E e1 e2 hE hret => ?_)
  unfold f_X6_entry at h
  refine jv_iload_n (x := p1) (pc' := 1) hE dX6_entry_0 rfl 0 rfl rfl ?_
  refine jv_bipush (v := (50 : Int32)) (pc' := 3) hE dX6_entry_1 rfl (by decide) ?_
  refine jv_imul (x := p1) (y := (50 : Int32)) (pc' := 4) hE dX6_entry_3 rfl ?_
  refine jv_iload_n (x := p2) (pc' := 5) hE dX6_entry_4 rfl 1 rfl rfl ?_
  refine jv_iadd (x := (p1 * (50 : Int32))) (y := p2) (pc' := 6) hE dX6_entry_5 rfl ?_
  cases h
  exact hret _ _ dX6_entry_6
noncomputable def f_X6_list (σ : jv_S) (p1 : Int32) (p2 : Int32) (p3 : Int32) (p4 : Int32) (p5 : Int32) : jv_S := (jv_wr (jv_wr (jv_wr (jv_wr (jv_wr σ 18 500 (f_X6_entry σ p1 (jv_rd (σ.1 22) 10 0 p1)) p2) 19 500 (f_X6_entry σ p1 (jv_rd (σ.1 22) 10 0 p1)) p3) 20 500 (f_X6_entry σ p1 (jv_rd (σ.1 22) 10 0 p1)) p4) 21 500 (f_X6_entry σ p1 (jv_rd (σ.1 22) 10 0 p1)) p5) 22 10 p1 ((jv_rd ((jv_wr (jv_wr (jv_wr (jv_wr σ 18 500 (f_X6_entry σ p1 (jv_rd (σ.1 22) 10 0 p1)) p2) 19 500 (f_X6_entry σ p1 (jv_rd (σ.1 22) 10 0 p1)) p3) 20 500 (f_X6_entry σ p1 (jv_rd (σ.1 22) 10 0 p1)) p4) 21 500 (f_X6_entry σ p1 (jv_rd (σ.1 22) 10 0 p1)) p5).1 22) 10 0 p1) + (1 : Int32)))
set_option maxRecDepth 100000 in
set_option maxHeartbeats 4000000 in
theorem ok_X6_list {G : jv_G} {l : Launch} {σ : jv_S} {p1 : Int32} {p2 : Int32} {p3 : Int32} {p4 : Int32} {p5 : Int32} {r : jv_S} (h : f_X6_list σ p1 p2 p3 p4 p5 = r) : jv_Cn G l 2 M_X6_list [.ref 17, .int p1, .int p2, .int p3, .int p4, .int p5] σ (none) r := by
  refine jv_of (L0 := [some (.ref 17), some (.int p1), some (.int p2), some (.int p3), some (.int p4), some (.int p5), none]) (by decide +kernel) (Nat.le_of_ble_eq_true rfl) rfl jv_okV (fun E e1 e2 hE hret => ?_)
  unfold f_X6_list at h
  refine jv_iload_n (x := p1) (pc' := 1) hE dX6_list_0 rfl 1 rfl rfl ?_
  refine jv_aload_n (x := 17) (pc' := 2) hE dX6_list_1 rfl 0 rfl rfl ?_
  refine jv_get (v := .ref 22) (pc' := 5) hE dX6_list_2 rfl lF_X6_24 rfl rfl rfl ?_
  refine jv_iload_n (x := p1) (pc' := 6) hE dX6_list_5 rfl 1 rfl rfl ?_
  refine jv_callN (pc' := 9) (o := some (.int (jv_rd (σ.1 22) 10 0 p1))) (σ' := σ) hE dX6_list_6 rfl lN_X6_51 (ok_X7_at (n := 10) (by decide) rfl rfl) rfl (by decide) rfl (Nat.le_of_ble_eq_true rfl) ?_
  show jv_V E 9 [some (.ref 17), some (.int p1), some (.int p2), some (.int p3), some (.int p4), some (.int p5), none] [.int (jv_rd (σ.1 22) 10 0 p1), .int p1] σ
  refine jv_callS (pc' := 12) (o := some (.int (f_X6_entry σ p1 (jv_rd (σ.1 22) 10 0 p1)))) (σ' := σ) hE dX6_list_9 rfl lS_X6_82 (ok_X6_entry rfl) rfl (by decide) rfl (Nat.le_of_ble_eq_true rfl) ?_
  show jv_V E 12 [some (.ref 17), some (.int p1), some (.int p2), some (.int p3), some (.int p4), some (.int p5), none] [.int (f_X6_entry σ p1 (jv_rd (σ.1 22) 10 0 p1))] σ
  refine jv_istore (x := (f_X6_entry σ p1 (jv_rd (σ.1 22) 10 0 p1))) (L' := [some (.ref 17), some (.int p1), some (.int p2), some (.int p3), some (.int p4), some (.int p5), some (.int (f_X6_entry σ p1 (jv_rd (σ.1 22) 10 0 p1)))]) (pc' := 14) hE dX6_list_12 rfl (by decide) rfl rfl ?_
  refine jv_aload_n (x := 17) (pc' := 15) hE dX6_list_14 rfl 0 rfl rfl ?_
  refine jv_get (v := .ref 18) (pc' := 18) hE dX6_list_15 rfl lF_X6_11 rfl rfl rfl ?_
  refine jv_iload (x := (f_X6_entry σ p1 (jv_rd (σ.1 22) 10 0 p1))) (pc' := 20) hE dX6_list_18 rfl rfl ?_
  refine jv_iload_n (x := p2) (pc' := 21) hE dX6_list_20 rfl 2 rfl rfl ?_
  refine jv_callN (pc' := 24) (o := none) (σ' := (jv_wr σ 18 500 (f_X6_entry σ p1 (jv_rd (σ.1 22) 10 0 p1)) p2)) hE dX6_list_21 rfl lN_X6_86 (ok_X7_put (n := 500) (by decide) rfl rfl) rfl (by decide) rfl (Nat.le_of_ble_eq_true rfl) ?_
  show jv_V E 24 [some (.ref 17), some (.int p1), some (.int p2), some (.int p3), some (.int p4), some (.int p5), some (.int (f_X6_entry σ p1 (jv_rd (σ.1 22) 10 0 p1)))] [] (jv_wr σ 18 500 (f_X6_entry σ p1 (jv_rd (σ.1 22) 10 0 p1)) p2)
  refine jv_aload_n (x := 17) (pc' := 25) hE dX6_list_24 rfl 0 rfl rfl ?_
  refine jv_get (v := .ref 19) (pc' := 28) hE dX6_list_25 rfl lF_X6_15 rfl rfl rfl ?_
  refine jv_iload (x := (f_X6_entry σ p1 (jv_rd (σ.1 22) 10 0 p1))) (pc' := 30) hE dX6_list_28 rfl rfl ?_
  refine jv_iload_n (x := p3) (pc' := 31) hE dX6_list_30 rfl 3 rfl rfl ?_
  refine jv_callN (pc' := 34) (o := none) (σ' := (jv_wr (jv_wr σ 18 500 (f_X6_entry σ p1 (jv_rd (σ.1 22) 10 0 p1)) p2) 19 500 (f_X6_entry σ p1 (jv_rd (σ.1 22) 10 0 p1)) p3)) hE dX6_list_31 rfl lN_X6_86 (ok_X7_put (n := 500) (by decide) rfl rfl) rfl (by decide) rfl (Nat.le_of_ble_eq_true rfl) ?_
  show jv_V E 34 [some (.ref 17), some (.int p1), some (.int p2), some (.int p3), some (.int p4), some (.int p5), some (.int (f_X6_entry σ p1 (jv_rd (σ.1 22) 10 0 p1)))] [] (jv_wr (jv_wr σ 18 500 (f_X6_entry σ p1 (jv_rd (σ.1 22) 10 0 p1)) p2) 19 500 (f_X6_entry σ p1 (jv_rd (σ.1 22) 10 0 p1)) p3)
  refine jv_aload_n (x := 17) (pc' := 35) hE dX6_list_34 rfl 0 rfl rfl ?_
  refine jv_get (v := .ref 20) (pc' := 38) hE dX6_list_35 rfl lF_X6_18 rfl rfl rfl ?_
  refine jv_iload (x := (f_X6_entry σ p1 (jv_rd (σ.1 22) 10 0 p1))) (pc' := 40) hE dX6_list_38 rfl rfl ?_
  refine jv_iload (x := p4) (pc' := 42) hE dX6_list_40 rfl rfl ?_
  refine jv_callN (pc' := 45) (o := none) (σ' := (jv_wr (jv_wr (jv_wr σ 18 500 (f_X6_entry σ p1 (jv_rd (σ.1 22) 10 0 p1)) p2) 19 500 (f_X6_entry σ p1 (jv_rd (σ.1 22) 10 0 p1)) p3) 20 500 (f_X6_entry σ p1 (jv_rd (σ.1 22) 10 0 p1)) p4)) hE dX6_list_42 rfl lN_X6_86 (ok_X7_put (n := 500) (by decide) rfl rfl) rfl (by decide) rfl (Nat.le_of_ble_eq_true rfl) ?_
  show jv_V E 45 [some (.ref 17), some (.int p1), some (.int p2), some (.int p3), some (.int p4), some (.int p5), some (.int (f_X6_entry σ p1 (jv_rd (σ.1 22) 10 0 p1)))] [] (jv_wr (jv_wr (jv_wr σ 18 500 (f_X6_entry σ p1 (jv_rd (σ.1 22) 10 0 p1)) p2) 19 500 (f_X6_entry σ p1 (jv_rd (σ.1 22) 10 0 p1)) p3) 20 500 (f_X6_entry σ p1 (jv_rd (σ.1 22) 10 0 p1)) p4)
  refine jv_aload_n (x := 17) (pc' := 46) hE dX6_list_45 rfl 0 rfl rfl ?_
  refine jv_get (v := .ref 21) (pc' := 49) hE dX6_list_46 rfl lF_X6_21 rfl rfl rfl ?_
  refine jv_iload (x := (f_X6_entry σ p1 (jv_rd (σ.1 22) 10 0 p1))) (pc' := 51) hE dX6_list_49 rfl rfl ?_
  refine jv_iload (x := p5) (pc' := 53) hE dX6_list_51 rfl rfl ?_
  refine jv_callN (pc' := 56) (o := none) (σ' := (jv_wr (jv_wr (jv_wr (jv_wr σ 18 500 (f_X6_entry σ p1 (jv_rd (σ.1 22) 10 0 p1)) p2) 19 500 (f_X6_entry σ p1 (jv_rd (σ.1 22) 10 0 p1)) p3) 20 500 (f_X6_entry σ p1 (jv_rd (σ.1 22) 10 0 p1)) p4) 21 500 (f_X6_entry σ p1 (jv_rd (σ.1 22) 10 0 p1)) p5)) hE dX6_list_53 rfl lN_X6_86 (ok_X7_put (n := 500) (by decide) rfl rfl) rfl (by decide) rfl (Nat.le_of_ble_eq_true rfl) ?_
  show jv_V E 56 [some (.ref 17), some (.int p1), some (.int p2), some (.int p3), some (.int p4), some (.int p5), some (.int (f_X6_entry σ p1 (jv_rd (σ.1 22) 10 0 p1)))] [] (jv_wr (jv_wr (jv_wr (jv_wr σ 18 500 (f_X6_entry σ p1 (jv_rd (σ.1 22) 10 0 p1)) p2) 19 500 (f_X6_entry σ p1 (jv_rd (σ.1 22) 10 0 p1)) p3) 20 500 (f_X6_entry σ p1 (jv_rd (σ.1 22) 10 0 p1)) p4) 21 500 (f_X6_entry σ p1 (jv_rd (σ.1 22) 10 0 p1)) p5)
  refine jv_aload_n (x := 17) (pc' := 57) hE dX6_list_56 rfl 0 rfl rfl ?_
  refine jv_get (v := .ref 22) (pc' := 60) hE dX6_list_57 rfl lF_X6_24 rfl rfl rfl ?_
  refine jv_iload_n (x := p1) (pc' := 61) hE dX6_list_60 rfl 1 rfl rfl ?_
  refine jv_aload_n (x := 17) (pc' := 62) hE dX6_list_61 rfl 0 rfl rfl ?_
  refine jv_get (v := .ref 22) (pc' := 65) hE dX6_list_62 rfl lF_X6_24 rfl rfl rfl ?_
  refine jv_iload_n (x := p1) (pc' := 66) hE dX6_list_65 rfl 1 rfl rfl ?_
  refine jv_callN (pc' := 69) (o := some (.int (jv_rd ((jv_wr (jv_wr (jv_wr (jv_wr σ 18 500 (f_X6_entry σ p1 (jv_rd (σ.1 22) 10 0 p1)) p2) 19 500 (f_X6_entry σ p1 (jv_rd (σ.1 22) 10 0 p1)) p3) 20 500 (f_X6_entry σ p1 (jv_rd (σ.1 22) 10 0 p1)) p4) 21 500 (f_X6_entry σ p1 (jv_rd (σ.1 22) 10 0 p1)) p5).1 22) 10 0 p1))) (σ' := (jv_wr (jv_wr (jv_wr (jv_wr σ 18 500 (f_X6_entry σ p1 (jv_rd (σ.1 22) 10 0 p1)) p2) 19 500 (f_X6_entry σ p1 (jv_rd (σ.1 22) 10 0 p1)) p3) 20 500 (f_X6_entry σ p1 (jv_rd (σ.1 22) 10 0 p1)) p4) 21 500 (f_X6_entry σ p1 (jv_rd (σ.1 22) 10 0 p1)) p5)) hE dX6_list_66 rfl lN_X6_51 (ok_X7_at (n := 10) (by decide) rfl rfl) rfl (by decide) rfl (Nat.le_of_ble_eq_true rfl) ?_
  show jv_V E 69 [some (.ref 17), some (.int p1), some (.int p2), some (.int p3), some (.int p4), some (.int p5), some (.int (f_X6_entry σ p1 (jv_rd (σ.1 22) 10 0 p1)))] [.int (jv_rd ((jv_wr (jv_wr (jv_wr (jv_wr σ 18 500 (f_X6_entry σ p1 (jv_rd (σ.1 22) 10 0 p1)) p2) 19 500 (f_X6_entry σ p1 (jv_rd (σ.1 22) 10 0 p1)) p3) 20 500 (f_X6_entry σ p1 (jv_rd (σ.1 22) 10 0 p1)) p4) 21 500 (f_X6_entry σ p1 (jv_rd (σ.1 22) 10 0 p1)) p5).1 22) 10 0 p1), .int p1, .ref 22] (jv_wr (jv_wr (jv_wr (jv_wr σ 18 500 (f_X6_entry σ p1 (jv_rd (σ.1 22) 10 0 p1)) p2) 19 500 (f_X6_entry σ p1 (jv_rd (σ.1 22) 10 0 p1)) p3) 20 500 (f_X6_entry σ p1 (jv_rd (σ.1 22) 10 0 p1)) p4) 21 500 (f_X6_entry σ p1 (jv_rd (σ.1 22) 10 0 p1)) p5)
  refine jv_iconst (v := (1 : Int32)) (pc' := 70) hE dX6_list_69 rfl (by decide) ?_
  refine jv_iadd (x := (jv_rd ((jv_wr (jv_wr (jv_wr (jv_wr σ 18 500 (f_X6_entry σ p1 (jv_rd (σ.1 22) 10 0 p1)) p2) 19 500 (f_X6_entry σ p1 (jv_rd (σ.1 22) 10 0 p1)) p3) 20 500 (f_X6_entry σ p1 (jv_rd (σ.1 22) 10 0 p1)) p4) 21 500 (f_X6_entry σ p1 (jv_rd (σ.1 22) 10 0 p1)) p5).1 22) 10 0 p1)) (y := (1 : Int32)) (pc' := 71) hE dX6_list_70 rfl ?_
  refine jv_callN (pc' := 74) (o := none) (σ' := (jv_wr (jv_wr (jv_wr (jv_wr (jv_wr σ 18 500 (f_X6_entry σ p1 (jv_rd (σ.1 22) 10 0 p1)) p2) 19 500 (f_X6_entry σ p1 (jv_rd (σ.1 22) 10 0 p1)) p3) 20 500 (f_X6_entry σ p1 (jv_rd (σ.1 22) 10 0 p1)) p4) 21 500 (f_X6_entry σ p1 (jv_rd (σ.1 22) 10 0 p1)) p5) 22 10 p1 ((jv_rd ((jv_wr (jv_wr (jv_wr (jv_wr σ 18 500 (f_X6_entry σ p1 (jv_rd (σ.1 22) 10 0 p1)) p2) 19 500 (f_X6_entry σ p1 (jv_rd (σ.1 22) 10 0 p1)) p3) 20 500 (f_X6_entry σ p1 (jv_rd (σ.1 22) 10 0 p1)) p4) 21 500 (f_X6_entry σ p1 (jv_rd (σ.1 22) 10 0 p1)) p5).1 22) 10 0 p1) + (1 : Int32)))) hE dX6_list_71 rfl lN_X6_86 (ok_X7_put (n := 10) (by decide) rfl rfl) rfl (by decide) rfl (Nat.le_of_ble_eq_true rfl) ?_
  show jv_V E 74 [some (.ref 17), some (.int p1), some (.int p2), some (.int p3), some (.int p4), some (.int p5), some (.int (f_X6_entry σ p1 (jv_rd (σ.1 22) 10 0 p1)))] [] (jv_wr (jv_wr (jv_wr (jv_wr (jv_wr σ 18 500 (f_X6_entry σ p1 (jv_rd (σ.1 22) 10 0 p1)) p2) 19 500 (f_X6_entry σ p1 (jv_rd (σ.1 22) 10 0 p1)) p3) 20 500 (f_X6_entry σ p1 (jv_rd (σ.1 22) 10 0 p1)) p4) 21 500 (f_X6_entry σ p1 (jv_rd (σ.1 22) 10 0 p1)) p5) 22 10 p1 ((jv_rd ((jv_wr (jv_wr (jv_wr (jv_wr σ 18 500 (f_X6_entry σ p1 (jv_rd (σ.1 22) 10 0 p1)) p2) 19 500 (f_X6_entry σ p1 (jv_rd (σ.1 22) 10 0 p1)) p3) 20 500 (f_X6_entry σ p1 (jv_rd (σ.1 22) 10 0 p1)) p4) 21 500 (f_X6_entry σ p1 (jv_rd (σ.1 22) 10 0 p1)) p5).1 22) 10 0 p1) + (1 : Int32)))
  cases h
  exact hret _ _ dX6_list_74
noncomputable def f_X6_restart (σ : jv_S) (p1 : Int32) (p2 : Int32) : jv_S := jv_lt (f_X6_list (jv_fl (jv_fl (jv_si (jv_si σ 17 7 p1) 17 8 (0 : Int32)) 22 10 (0 : Int32)) 23 24 (0 : Int32)) p2 (0 : Int32) (0 : Int32) (-1 : Int32) (0 : Int32)) (fun q1 => q1)
set_option maxRecDepth 100000 in
set_option maxHeartbeats 4000000 in
theorem ok_X6_restart {G : jv_G} {l : Launch} {σ : jv_S} {p1 : Int32} {p2 : Int32} {r : jv_S} (h : f_X6_restart σ p1 p2 = r) : jv_Cn G l 3 M_X6_restart [.ref 17, .int p1, .int p2] σ (none) r := by
  refine jv_of (L0 := [some (.ref 17), some (.int p1), some (.int p2)]) (by decide +kernel) (Nat.le_of_ble_eq_true rfl) rfl jv_okV (fun E e1 e2 hE hret => ?_)
  unfold f_X6_restart at h
  refine jv_aload_n (x := 17) (pc' := 1) hE dX6_restart_0 rfl 0 rfl rfl ?_
  refine jv_iload_n (x := p1) (pc' := 2) hE dX6_restart_1 rfl 1 rfl rfl ?_
  refine jv_puti (x := p1) (pc' := 5) hE dX6_restart_2 rfl lP_X6_34 rfl rfl rfl rfl ?_
  refine jv_aload_n (x := 17) (pc' := 6) hE dX6_restart_5 rfl 0 rfl rfl ?_
  refine jv_iconst (v := (0 : Int32)) (pc' := 7) hE dX6_restart_6 rfl (by decide) ?_
  refine jv_puti (x := (0 : Int32)) (pc' := 10) hE dX6_restart_7 rfl lP_X6_38 rfl rfl rfl rfl ?_
  refine jv_aload_n (x := 17) (pc' := 11) hE dX6_restart_10 rfl 0 rfl rfl ?_
  refine jv_get (v := .ref 22) (pc' := 14) hE dX6_restart_11 rfl lF_X6_24 rfl rfl rfl ?_
  refine jv_iconst (v := (0 : Int32)) (pc' := 15) hE dX6_restart_14 rfl (by decide) ?_
  refine jv_callS (pc' := 18) (o := none) (σ' := (jv_fl (jv_si (jv_si σ 17 7 p1) 17 8 (0 : Int32)) 22 10 (0 : Int32))) hE dX6_restart_15 rfl lS_X6_41 (ok_J7_fill_53178 (n := 10) (by decide) rfl rfl) rfl (by decide) rfl (Nat.le_of_ble_eq_true rfl) ?_
  show jv_V E 18 [some (.ref 17), some (.int p1), some (.int p2)] [] (jv_fl (jv_si (jv_si σ 17 7 p1) 17 8 (0 : Int32)) 22 10 (0 : Int32))
  refine jv_aload_n (x := 17) (pc' := 19) hE dX6_restart_18 rfl 0 rfl rfl ?_
  refine jv_get (v := .ref 23) (pc' := 22) hE dX6_restart_19 rfl lF_X6_27 rfl rfl rfl ?_
  refine jv_iconst (v := (0 : Int32)) (pc' := 23) hE dX6_restart_22 rfl (by decide) ?_
  refine jv_callS (pc' := 26) (o := none) (σ' := (jv_fl (jv_fl (jv_si (jv_si σ 17 7 p1) 17 8 (0 : Int32)) 22 10 (0 : Int32)) 23 24 (0 : Int32))) hE dX6_restart_23 rfl lS_X6_41 (ok_J7_fill_53178 (n := 24) (by decide) rfl rfl) rfl (by decide) rfl (Nat.le_of_ble_eq_true rfl) ?_
  show jv_V E 26 [some (.ref 17), some (.int p1), some (.int p2)] [] (jv_fl (jv_fl (jv_si (jv_si σ 17 7 p1) 17 8 (0 : Int32)) 22 10 (0 : Int32)) 23 24 (0 : Int32))
  refine jv_aload_n (x := 17) (pc' := 27) hE dX6_restart_26 rfl 0 rfl rfl ?_
  refine jv_iload_n (x := p2) (pc' := 28) hE dX6_restart_27 rfl 2 rfl rfl ?_
  refine jv_iconst (v := (0 : Int32)) (pc' := 29) hE dX6_restart_28 rfl (by decide) ?_
  refine jv_iconst (v := (0 : Int32)) (pc' := 30) hE dX6_restart_29 rfl (by decide) ?_
  refine jv_iconst (v := (-1 : Int32)) (pc' := 31) hE dX6_restart_30 rfl (by decide) ?_
  refine jv_iconst (v := (0 : Int32)) (pc' := 32) hE dX6_restart_31 rfl (by decide) ?_
  obtain ⟨q1, hq1, h⟩ := jv_lt_eq h
  refine jv_callV (pc' := 35) (o := none) (σ' := q1) hE dX6_restart_32 rfl lV_X6_47 (ok_X6_list hq1) rfl rfl rfl (by decide) rfl (Nat.le_of_ble_eq_true rfl) ?_
  show jv_V E 35 [some (.ref 17), some (.int p1), some (.int p2)] [] q1
  cases h
  exact hret _ _ dX6_restart_35
noncomputable def f_X6_drawnTotal (σ : jv_S) : Int32 := (σ.1 17 8)
set_option maxRecDepth 100000 in
set_option maxHeartbeats 4000000 in
theorem ok_X6_drawnTotal {G : jv_G} {l : Launch} {σ : jv_S} {r : Int32} (h : f_X6_drawnTotal σ = r) : jv_Cn G l 1 M_X6_drawnTotal [.ref 17] σ (some (.int r)) σ := by
  refine jv_of (L0 := [some (.ref 17)]) (by decide +kernel) (Nat.le_of_ble_eq_true rfl) rfl (jv_okI _) (fun E e1 e2 hE hret => ?_)
  unfold f_X6_drawnTotal at h
  refine jv_aload_n (x := 17) (pc' := 1) hE dX6_drawnTotal_0 rfl 0 rfl rfl ?_
  refine jv_get (v := .int (σ.1 17 8)) (pc' := 4) hE dX6_drawnTotal_1 rfl lF_X6_38 rfl rfl rfl ?_
  cases h
  exact hret _ _ dX6_drawnTotal_4
noncomputable def f_X6_shortestEdge_lp7 : Nat → Int32 → Int32 → Int32 → jv_S → Option (Int32 × Int32 × Int32)
  | 0, _, _, _, _ => none
  | n + 1, v1, v2, v3, σ => if (f_X3_usableTotal σ) ≤ v3 then (some (v1, v2, v3)) else (jv_lt (if (jv_rd (σ.1 22) 10 0 (f_X3_headOf σ (f_X3_outEdge σ v3))) ≤ (jv_rd (σ.1 23) 24 0 (f_X3_outEdge σ v3)) then ((v1, v2)) else (if (jv_rd (σ.1 22) 10 0 (f_X3_tailOf σ (f_X3_outEdge σ v3))) < (50 : Int32) then (if v2 ≤ ((f_X3_lengthOf σ (f_X3_outEdge σ v3)) + (jv_rd (σ.1 18) 500 0 (f_X6_entry σ (f_X3_headOf σ (f_X3_outEdge σ v3)) (jv_rd (σ.1 23) 24 0 (f_X3_outEdge σ v3))))) then ((v1, v2)) else (((f_X3_outEdge σ v3), ((f_X3_lengthOf σ (f_X3_outEdge σ v3)) + (jv_rd (σ.1 18) 500 0 (f_X6_entry σ (f_X3_headOf σ (f_X3_outEdge σ v3)) (jv_rd (σ.1 23) 24 0 (f_X3_outEdge σ v3)))))))) else ((v1, v2)))) (fun q3 => f_X6_shortestEdge_lp7 n q3.1 q3.2 (v3 + (1 : Int32)) σ))
noncomputable def f_X6_shortestEdge (σ : jv_S) : Option (Int32) := jv_bd (f_X6_shortestEdge_lp7 jv_fuel (-1 : Int32) (1000000000 : Int32) (0 : Int32) σ) (fun q6 => some q6.1)
set_option maxRecDepth 100000 in
set_option maxHeartbeats 4000000 in
theorem lp_X6_shortestEdge_7 {σ : jv_S} {E : jv_E} (hE : jv_Cx E RX6 cX6_shortestEdge 7 3) : ∀ (n : Nat) (v1 : Int32) (v2 : Int32) (v3 : Int32)  (q : Int32 × Int32 × Int32), f_X6_shortestEdge_lp7 n v1 v2 v3 σ = some q → (jv_V E 135 [none, some (.int q.1), none, none, none, none, none] [] σ) → jv_V E 7 [some (.ref 17), some (.int v1), some (.int v2), some (.int v3), none, none, none] [] σ := by
  intro n
  induction n with
  | zero =>
    intro v1 v2 v3 q h
    rw [f_X6_shortestEdge_lp7] at h
    cases h
  | succ n ih =>
    intro v1 v2 v3 q h hk
    rw [f_X6_shortestEdge_lp7] at h
    refine jv_iload_n (x := v3) (pc' := 8) hE dX6_shortestEdge_7 rfl 3 rfl rfl ?_
    refine jv_aload_n (x := 17) (pc' := 9) hE dX6_shortestEdge_8 rfl 0 rfl rfl ?_
    refine jv_get (v := .ref 1) (pc' := 12) hE dX6_shortestEdge_9 rfl lF_X6_30 rfl rfl rfl ?_
    refine jv_callV (pc' := 15) (o := some (.int (f_X3_usableTotal σ))) (σ' := σ) hE dX6_shortestEdge_12 rfl lV_X6_64 (ok_X3_usableTotal rfl) rfl rfl rfl (by decide) rfl (Nat.le_of_ble_eq_true rfl) ?_
    show jv_V E 15 [some (.ref 17), some (.int v1), some (.int v2), some (.int v3), none, none, none] [.int (f_X3_usableTotal σ), .int v3] σ
    refine jv_icmp_ge (x := v3) (y := (f_X3_usableTotal σ)) (tgt := 135) (pc' := 18) hE dX6_shortestEdge_15 (by decide) rfl (fun c1 => ?_) (fun c1 => ?_)
    · rw [if_pos c1] at h
      cases h
      exact jv_forget [false, true, false, false, true, true, true] hk
    · rw [if_neg c1] at h
      refine jv_aload_n (x := 17) (pc' := 19) hE dX6_shortestEdge_18 rfl 0 rfl rfl ?_
      refine jv_get (v := .ref 1) (pc' := 22) hE dX6_shortestEdge_19 rfl lF_X6_30 rfl rfl rfl ?_
      refine jv_iload_n (x := v3) (pc' := 23) hE dX6_shortestEdge_22 rfl 3 rfl rfl ?_
      refine jv_callV (pc' := 26) (o := some (.int (f_X3_outEdge σ v3))) (σ' := σ) hE dX6_shortestEdge_23 rfl lV_X6_69 (ok_X3_outEdge rfl) rfl rfl rfl (by decide) rfl (Nat.le_of_ble_eq_true rfl) ?_
      show jv_V E 26 [some (.ref 17), some (.int v1), some (.int v2), some (.int v3), none, none, none] [.int (f_X3_outEdge σ v3)] σ
      refine jv_istore (x := (f_X3_outEdge σ v3)) (L' := [some (.ref 17), some (.int v1), some (.int v2), some (.int v3), some (.int (f_X3_outEdge σ v3)), none, none]) (pc' := 28) hE dX6_shortestEdge_26 rfl (by decide) rfl rfl ?_
      refine jv_aload_n (x := 17) (pc' := 29) hE dX6_shortestEdge_28 rfl 0 rfl rfl ?_
      refine jv_get (v := .ref 1) (pc' := 32) hE dX6_shortestEdge_29 rfl lF_X6_30 rfl rfl rfl ?_
      refine jv_iload (x := (f_X3_outEdge σ v3)) (pc' := 34) hE dX6_shortestEdge_32 rfl rfl ?_
      refine jv_callV (pc' := 37) (o := some (.int (f_X3_headOf σ (f_X3_outEdge σ v3)))) (σ' := σ) hE dX6_shortestEdge_34 rfl lV_X6_73 (ok_X3_headOf rfl) rfl rfl rfl (by decide) rfl (Nat.le_of_ble_eq_true rfl) ?_
      show jv_V E 37 [some (.ref 17), some (.int v1), some (.int v2), some (.int v3), some (.int (f_X3_outEdge σ v3)), none, none] [.int (f_X3_headOf σ (f_X3_outEdge σ v3))] σ
      refine jv_istore (x := (f_X3_headOf σ (f_X3_outEdge σ v3))) (L' := [some (.ref 17), some (.int v1), some (.int v2), some (.int v3), some (.int (f_X3_outEdge σ v3)), some (.int (f_X3_headOf σ (f_X3_outEdge σ v3))), none]) (pc' := 39) hE dX6_shortestEdge_37 rfl (by decide) rfl rfl ?_
      refine jv_aload_n (x := 17) (pc' := 40) hE dX6_shortestEdge_39 rfl 0 rfl rfl ?_
      refine jv_get (v := .ref 23) (pc' := 43) hE dX6_shortestEdge_40 rfl lF_X6_27 rfl rfl rfl ?_
      refine jv_iload (x := (f_X3_outEdge σ v3)) (pc' := 45) hE dX6_shortestEdge_43 rfl rfl ?_
      refine jv_callN (pc' := 48) (o := some (.int (jv_rd (σ.1 23) 24 0 (f_X3_outEdge σ v3)))) (σ' := σ) hE dX6_shortestEdge_45 rfl lN_X6_51 (ok_X7_at (n := 24) (by decide) rfl rfl) rfl (by decide) rfl (Nat.le_of_ble_eq_true rfl) ?_
      show jv_V E 48 [some (.ref 17), some (.int v1), some (.int v2), some (.int v3), some (.int (f_X3_outEdge σ v3)), some (.int (f_X3_headOf σ (f_X3_outEdge σ v3))), none] [.int (jv_rd (σ.1 23) 24 0 (f_X3_outEdge σ v3))] σ
      refine jv_aload_n (x := 17) (pc' := 49) hE dX6_shortestEdge_48 rfl 0 rfl rfl ?_
      refine jv_get (v := .ref 22) (pc' := 52) hE dX6_shortestEdge_49 rfl lF_X6_24 rfl rfl rfl ?_
      refine jv_iload (x := (f_X3_headOf σ (f_X3_outEdge σ v3))) (pc' := 54) hE dX6_shortestEdge_52 rfl rfl ?_
      refine jv_callN (pc' := 57) (o := some (.int (jv_rd (σ.1 22) 10 0 (f_X3_headOf σ (f_X3_outEdge σ v3))))) (σ' := σ) hE dX6_shortestEdge_54 rfl lN_X6_51 (ok_X7_at (n := 10) (by decide) rfl rfl) rfl (by decide) rfl (Nat.le_of_ble_eq_true rfl) ?_
      show jv_V E 57 [some (.ref 17), some (.int v1), some (.int v2), some (.int v3), some (.int (f_X3_outEdge σ v3)), some (.int (f_X3_headOf σ (f_X3_outEdge σ v3))), none] [.int (jv_rd (σ.1 22) 10 0 (f_X3_headOf σ (f_X3_outEdge σ v3))), .int (jv_rd (σ.1 23) 24 0 (f_X3_outEdge σ v3))] σ
      obtain ⟨q3, hq3, h⟩ := jv_lt_eq h
      have kq3 : jv_V E 129 [some (.ref 17), some (.int q3.1), some (.int q3.2), some (.int v3), none, none, none] [] σ := by
        refine jv_iinc (x := v3) (v := (v3 + (1 : Int32))) (L' := [some (.ref 17), some (.int q3.1), some (.int q3.2), some (.int (v3 + (1 : Int32))), none, none, none]) (pc' := 132) hE dX6_shortestEdge_129 rfl rfl rfl (by decide) rfl rfl ?_
        refine jv_goto (tgt := 7) hE dX6_shortestEdge_132 (by decide) ?_
        exact jv_forget [true, true, true, true, true, true, true] (ih q3.1 q3.2 (v3 + (1 : Int32)) _ h hk)
      refine jv_icmp_ge (x := (jv_rd (σ.1 23) 24 0 (f_X3_outEdge σ v3))) (y := (jv_rd (σ.1 22) 10 0 (f_X3_headOf σ (f_X3_outEdge σ v3)))) (tgt := 129) (pc' := 60) hE dX6_shortestEdge_57 (by decide) rfl (fun c2 => ?_) (fun c2 => ?_)
      · rw [if_pos c2] at hq3
        cases hq3
        exact jv_forget [true, true, true, true, false, false, true] kq3
      · rw [if_neg c2] at hq3
        refine jv_aload_n (x := 17) (pc' := 61) hE dX6_shortestEdge_60 rfl 0 rfl rfl ?_
        refine jv_get (v := .ref 22) (pc' := 64) hE dX6_shortestEdge_61 rfl lF_X6_24 rfl rfl rfl ?_
        refine jv_aload_n (x := 17) (pc' := 65) hE dX6_shortestEdge_64 rfl 0 rfl rfl ?_
        refine jv_get (v := .ref 1) (pc' := 68) hE dX6_shortestEdge_65 rfl lF_X6_30 rfl rfl rfl ?_
        refine jv_iload (x := (f_X3_outEdge σ v3)) (pc' := 70) hE dX6_shortestEdge_68 rfl rfl ?_
        refine jv_callV (pc' := 73) (o := some (.int (f_X3_tailOf σ (f_X3_outEdge σ v3)))) (σ' := σ) hE dX6_shortestEdge_70 rfl lV_X6_76 (ok_X3_tailOf rfl) rfl rfl rfl (by decide) rfl (Nat.le_of_ble_eq_true rfl) ?_
        show jv_V E 73 [some (.ref 17), some (.int v1), some (.int v2), some (.int v3), some (.int (f_X3_outEdge σ v3)), some (.int (f_X3_headOf σ (f_X3_outEdge σ v3))), none] [.int (f_X3_tailOf σ (f_X3_outEdge σ v3)), .ref 22] σ
        refine jv_callN (pc' := 76) (o := some (.int (jv_rd (σ.1 22) 10 0 (f_X3_tailOf σ (f_X3_outEdge σ v3))))) (σ' := σ) hE dX6_shortestEdge_73 rfl lN_X6_51 (ok_X7_at (n := 10) (by decide) rfl rfl) rfl (by decide) rfl (Nat.le_of_ble_eq_true rfl) ?_
        show jv_V E 76 [some (.ref 17), some (.int v1), some (.int v2), some (.int v3), some (.int (f_X3_outEdge σ v3)), some (.int (f_X3_headOf σ (f_X3_outEdge σ v3))), none] [.int (jv_rd (σ.1 22) 10 0 (f_X3_tailOf σ (f_X3_outEdge σ v3)))] σ
        refine jv_bipush (v := (50 : Int32)) (pc' := 78) hE dX6_shortestEdge_76 rfl (by decide) ?_
        refine jv_icmp_lt (x := (jv_rd (σ.1 22) 10 0 (f_X3_tailOf σ (f_X3_outEdge σ v3)))) (y := (50 : Int32)) (tgt := 84) (pc' := 81) hE dX6_shortestEdge_78 (by decide) rfl (fun c4 => ?_) (fun c4 => ?_)
        · rw [if_pos c4] at hq3
          refine jv_aload_n (x := 17) (pc' := 85) hE dX6_shortestEdge_84 rfl 0 rfl rfl ?_
          refine jv_get (v := .ref 1) (pc' := 88) hE dX6_shortestEdge_85 rfl lF_X6_30 rfl rfl rfl ?_
          refine jv_iload (x := (f_X3_outEdge σ v3)) (pc' := 90) hE dX6_shortestEdge_88 rfl rfl ?_
          refine jv_callV (pc' := 93) (o := some (.int (f_X3_lengthOf σ (f_X3_outEdge σ v3)))) (σ' := σ) hE dX6_shortestEdge_90 rfl lV_X6_79 (ok_X3_lengthOf rfl) rfl rfl rfl (by decide) rfl (Nat.le_of_ble_eq_true rfl) ?_
          show jv_V E 93 [some (.ref 17), some (.int v1), some (.int v2), some (.int v3), some (.int (f_X3_outEdge σ v3)), some (.int (f_X3_headOf σ (f_X3_outEdge σ v3))), none] [.int (f_X3_lengthOf σ (f_X3_outEdge σ v3))] σ
          refine jv_aload_n (x := 17) (pc' := 94) hE dX6_shortestEdge_93 rfl 0 rfl rfl ?_
          refine jv_get (v := .ref 18) (pc' := 97) hE dX6_shortestEdge_94 rfl lF_X6_11 rfl rfl rfl ?_
          refine jv_iload (x := (f_X3_headOf σ (f_X3_outEdge σ v3))) (pc' := 99) hE dX6_shortestEdge_97 rfl rfl ?_
          refine jv_aload_n (x := 17) (pc' := 100) hE dX6_shortestEdge_99 rfl 0 rfl rfl ?_
          refine jv_get (v := .ref 23) (pc' := 103) hE dX6_shortestEdge_100 rfl lF_X6_27 rfl rfl rfl ?_
          refine jv_iload (x := (f_X3_outEdge σ v3)) (pc' := 105) hE dX6_shortestEdge_103 rfl rfl ?_
          refine jv_callN (pc' := 108) (o := some (.int (jv_rd (σ.1 23) 24 0 (f_X3_outEdge σ v3)))) (σ' := σ) hE dX6_shortestEdge_105 rfl lN_X6_51 (ok_X7_at (n := 24) (by decide) rfl rfl) rfl (by decide) rfl (Nat.le_of_ble_eq_true rfl) ?_
          show jv_V E 108 [some (.ref 17), some (.int v1), some (.int v2), some (.int v3), some (.int (f_X3_outEdge σ v3)), some (.int (f_X3_headOf σ (f_X3_outEdge σ v3))), none] [.int (jv_rd (σ.1 23) 24 0 (f_X3_outEdge σ v3)), .int (f_X3_headOf σ (f_X3_outEdge σ v3)), .ref 18, .int (f_X3_lengthOf σ (f_X3_outEdge σ v3))] σ
          refine jv_callS (pc' := 111) (o := some (.int (f_X6_entry σ (f_X3_headOf σ (f_X3_outEdge σ v3)) (jv_rd (σ.1 23) 24 0 (f_X3_outEdge σ v3))))) (σ' := σ) hE dX6_shortestEdge_108 rfl lS_X6_82 (ok_X6_entry rfl) rfl (by decide) rfl (Nat.le_of_ble_eq_true rfl) ?_
          show jv_V E 111 [some (.ref 17), some (.int v1), some (.int v2), some (.int v3), some (.int (f_X3_outEdge σ v3)), some (.int (f_X3_headOf σ (f_X3_outEdge σ v3))), none] [.int (f_X6_entry σ (f_X3_headOf σ (f_X3_outEdge σ v3)) (jv_rd (σ.1 23) 24 0 (f_X3_outEdge σ v3))), .ref 18, .int (f_X3_lengthOf σ (f_X3_outEdge σ v3))] σ
          refine jv_callN (pc' := 114) (o := some (.int (jv_rd (σ.1 18) 500 0 (f_X6_entry σ (f_X3_headOf σ (f_X3_outEdge σ v3)) (jv_rd (σ.1 23) 24 0 (f_X3_outEdge σ v3)))))) (σ' := σ) hE dX6_shortestEdge_111 rfl lN_X6_51 (ok_X7_at (n := 500) (by decide) rfl rfl) rfl (by decide) rfl (Nat.le_of_ble_eq_true rfl) ?_
          show jv_V E 114 [some (.ref 17), some (.int v1), some (.int v2), some (.int v3), some (.int (f_X3_outEdge σ v3)), some (.int (f_X3_headOf σ (f_X3_outEdge σ v3))), none] [.int (jv_rd (σ.1 18) 500 0 (f_X6_entry σ (f_X3_headOf σ (f_X3_outEdge σ v3)) (jv_rd (σ.1 23) 24 0 (f_X3_outEdge σ v3)))), .int (f_X3_lengthOf σ (f_X3_outEdge σ v3))] σ
          refine jv_iadd (x := (f_X3_lengthOf σ (f_X3_outEdge σ v3))) (y := (jv_rd (σ.1 18) 500 0 (f_X6_entry σ (f_X3_headOf σ (f_X3_outEdge σ v3)) (jv_rd (σ.1 23) 24 0 (f_X3_outEdge σ v3))))) (pc' := 115) hE dX6_shortestEdge_114 rfl ?_
          refine jv_istore (x := ((f_X3_lengthOf σ (f_X3_outEdge σ v3)) + (jv_rd (σ.1 18) 500 0 (f_X6_entry σ (f_X3_headOf σ (f_X3_outEdge σ v3)) (jv_rd (σ.1 23) 24 0 (f_X3_outEdge σ v3)))))) (L' := [some (.ref 17), some (.int v1), some (.int v2), some (.int v3), some (.int (f_X3_outEdge σ v3)), some (.int (f_X3_headOf σ (f_X3_outEdge σ v3))), some (.int ((f_X3_lengthOf σ (f_X3_outEdge σ v3)) + (jv_rd (σ.1 18) 500 0 (f_X6_entry σ (f_X3_headOf σ (f_X3_outEdge σ v3)) (jv_rd (σ.1 23) 24 0 (f_X3_outEdge σ v3))))))]) (pc' := 117) hE dX6_shortestEdge_115 rfl (by decide) rfl rfl ?_
          refine jv_iload (x := ((f_X3_lengthOf σ (f_X3_outEdge σ v3)) + (jv_rd (σ.1 18) 500 0 (f_X6_entry σ (f_X3_headOf σ (f_X3_outEdge σ v3)) (jv_rd (σ.1 23) 24 0 (f_X3_outEdge σ v3)))))) (pc' := 119) hE dX6_shortestEdge_117 rfl rfl ?_
          refine jv_iload_n (x := v2) (pc' := 120) hE dX6_shortestEdge_119 rfl 2 rfl rfl ?_
          refine jv_icmp_ge (x := ((f_X3_lengthOf σ (f_X3_outEdge σ v3)) + (jv_rd (σ.1 18) 500 0 (f_X6_entry σ (f_X3_headOf σ (f_X3_outEdge σ v3)) (jv_rd (σ.1 23) 24 0 (f_X3_outEdge σ v3)))))) (y := v2) (tgt := 129) (pc' := 123) hE dX6_shortestEdge_120 (by decide) rfl (fun c5 => ?_) (fun c5 => ?_)
          · rw [if_pos c5] at hq3
            cases hq3
            exact jv_forget [true, true, true, true, false, false, false] kq3
          · rw [if_neg c5] at hq3
            refine jv_iload (x := ((f_X3_lengthOf σ (f_X3_outEdge σ v3)) + (jv_rd (σ.1 18) 500 0 (f_X6_entry σ (f_X3_headOf σ (f_X3_outEdge σ v3)) (jv_rd (σ.1 23) 24 0 (f_X3_outEdge σ v3)))))) (pc' := 125) hE dX6_shortestEdge_123 rfl rfl ?_
            refine jv_istore_n (x := ((f_X3_lengthOf σ (f_X3_outEdge σ v3)) + (jv_rd (σ.1 18) 500 0 (f_X6_entry σ (f_X3_headOf σ (f_X3_outEdge σ v3)) (jv_rd (σ.1 23) 24 0 (f_X3_outEdge σ v3)))))) (L' := [some (.ref 17), some (.int v1), some (.int ((f_X3_lengthOf σ (f_X3_outEdge σ v3)) + (jv_rd (σ.1 18) 500 0 (f_X6_entry σ (f_X3_headOf σ (f_X3_outEdge σ v3)) (jv_rd (σ.1 23) 24 0 (f_X3_outEdge σ v3)))))), some (.int v3), some (.int (f_X3_outEdge σ v3)), some (.int (f_X3_headOf σ (f_X3_outEdge σ v3))), some (.int ((f_X3_lengthOf σ (f_X3_outEdge σ v3)) + (jv_rd (σ.1 18) 500 0 (f_X6_entry σ (f_X3_headOf σ (f_X3_outEdge σ v3)) (jv_rd (σ.1 23) 24 0 (f_X3_outEdge σ v3))))))]) (pc' := 126) hE dX6_shortestEdge_125 rfl 2 rfl (by decide) rfl rfl ?_
            refine jv_iload (x := (f_X3_outEdge σ v3)) (pc' := 128) hE dX6_shortestEdge_126 rfl rfl ?_
            refine jv_istore_n (x := (f_X3_outEdge σ v3)) (L' := [some (.ref 17), some (.int (f_X3_outEdge σ v3)), some (.int ((f_X3_lengthOf σ (f_X3_outEdge σ v3)) + (jv_rd (σ.1 18) 500 0 (f_X6_entry σ (f_X3_headOf σ (f_X3_outEdge σ v3)) (jv_rd (σ.1 23) 24 0 (f_X3_outEdge σ v3)))))), some (.int v3), some (.int (f_X3_outEdge σ v3)), some (.int (f_X3_headOf σ (f_X3_outEdge σ v3))), some (.int ((f_X3_lengthOf σ (f_X3_outEdge σ v3)) + (jv_rd (σ.1 18) 500 0 (f_X6_entry σ (f_X3_headOf σ (f_X3_outEdge σ v3)) (jv_rd (σ.1 23) 24 0 (f_X3_outEdge σ v3))))))]) (pc' := 129) hE dX6_shortestEdge_128 rfl 1 rfl (by decide) rfl rfl ?_
            cases hq3
            exact jv_forget [true, true, true, true, false, false, false] kq3
        · rw [if_neg c4] at hq3
          refine jv_goto (tgt := 129) hE dX6_shortestEdge_81 (by decide) ?_
          cases hq3
          exact jv_forget [true, true, true, true, false, false, true] kq3
set_option maxRecDepth 100000 in
set_option maxHeartbeats 4000000 in
theorem ok_X6_shortestEdge {G : jv_G} {l : Launch} {σ : jv_S} {r : Int32} (h : f_X6_shortestEdge σ = some r) : jv_Cn G l 3 M_X6_shortestEdge [.ref 17] σ (some (.int r)) σ := by
  refine jv_of (L0 := [some (.ref 17), none, none, none, none, none, none]) (by decide +kernel) (Nat.le_of_ble_eq_true rfl) rfl (jv_okI _) (fun E e1 e2 hE hret => ?_)
  unfold f_X6_shortestEdge at h
  refine jv_iconst (v := (-1 : Int32)) (pc' := 1) hE dX6_shortestEdge_0 rfl (by decide) ?_
  refine jv_istore_n (x := (-1 : Int32)) (L' := [some (.ref 17), some (.int (-1 : Int32)), none, none, none, none, none]) (pc' := 2) hE dX6_shortestEdge_1 rfl 1 rfl (by decide) rfl rfl ?_
  refine jv_ldc (v := (1000000000 : Int32)) (pc' := 4) hE dX6_shortestEdge_2 rfl lC_X6_63 ?_
  refine jv_istore_n (x := (1000000000 : Int32)) (L' := [some (.ref 17), some (.int (-1 : Int32)), some (.int (1000000000 : Int32)), none, none, none, none]) (pc' := 5) hE dX6_shortestEdge_4 rfl 2 rfl (by decide) rfl rfl ?_
  refine jv_iconst (v := (0 : Int32)) (pc' := 6) hE dX6_shortestEdge_5 rfl (by decide) ?_
  refine jv_istore_n (x := (0 : Int32)) (L' := [some (.ref 17), some (.int (-1 : Int32)), some (.int (1000000000 : Int32)), some (.int (0 : Int32)), none, none, none]) (pc' := 7) hE dX6_shortestEdge_6 rfl 3 rfl (by decide) rfl rfl ?_
  obtain ⟨q6, hq6, h⟩ := jv_bd_some h
  refine jv_forget [true, true, true, true, true, true, true] (lp_X6_shortestEdge_7 hE jv_fuel (-1 : Int32) (1000000000 : Int32) (0 : Int32) _ hq6 ?_)
  refine jv_iload_n (x := q6.1) (pc' := 136) hE dX6_shortestEdge_135 rfl 1 rfl rfl ?_
  cases h
  exact hret _ _ dX6_shortestEdge_136
noncomputable def f_X6_putAhead (σ : jv_S) (p1 : Int32) : jv_S := jv_lt (f_X6_list (jv_wr σ 23 24 p1 ((jv_rd (σ.1 23) 24 0 p1) + (1 : Int32))) (f_X3_tailOf (jv_wr σ 23 24 p1 ((jv_rd (σ.1 23) 24 0 p1) + (1 : Int32))) p1) ((f_X3_lengthOf σ p1) + (jv_rd (σ.1 18) 500 0 (f_X6_entry σ (f_X3_headOf σ p1) (jv_rd (σ.1 23) 24 0 p1)))) ((jv_rd ((jv_wr σ 23 24 p1 ((jv_rd (σ.1 23) 24 0 p1) + (1 : Int32))).1 19) 500 0 (f_X6_entry σ (f_X3_headOf σ p1) (jv_rd (σ.1 23) 24 0 p1))) + (1 : Int32)) p1 (f_X6_entry σ (f_X3_headOf σ p1) (jv_rd (σ.1 23) 24 0 p1))) (fun q1 => q1)
set_option maxRecDepth 100000 in
set_option maxHeartbeats 4000000 in
theorem ok_X6_putAhead {G : jv_G} {l : Launch} {σ : jv_S} {p1 : Int32} {r : jv_S} (h : f_X6_putAhead σ p1 = r) : jv_Cn G l 3 M_X6_putAhead [.ref 17, .int p1] σ (none) r := by
  refine jv_of (L0 := [some (.ref 17), some (.int p1), none, none]) (by decide +kernel) (Nat.le_of_ble_eq_true rfl) rfl jv_okV (fun E e1 e2 hE hret => ?_)
  unfold f_X6_putAhead at h
  refine jv_aload_n (x := 17) (pc' := 1) hE dX6_putAhead_0 rfl 0 rfl rfl ?_
  refine jv_get (v := .ref 1) (pc' := 4) hE dX6_putAhead_1 rfl lF_X6_30 rfl rfl rfl ?_
  refine jv_iload_n (x := p1) (pc' := 5) hE dX6_putAhead_4 rfl 1 rfl rfl ?_
  refine jv_callV (pc' := 8) (o := some (.int (f_X3_headOf σ p1))) (σ' := σ) hE dX6_putAhead_5 rfl lV_X6_73 (ok_X3_headOf rfl) rfl rfl rfl (by decide) rfl (Nat.le_of_ble_eq_true rfl) ?_
  show jv_V E 8 [some (.ref 17), some (.int p1), none, none] [.int (f_X3_headOf σ p1)] σ
  refine jv_aload_n (x := 17) (pc' := 9) hE dX6_putAhead_8 rfl 0 rfl rfl ?_
  refine jv_get (v := .ref 23) (pc' := 12) hE dX6_putAhead_9 rfl lF_X6_27 rfl rfl rfl ?_
  refine jv_iload_n (x := p1) (pc' := 13) hE dX6_putAhead_12 rfl 1 rfl rfl ?_
  refine jv_callN (pc' := 16) (o := some (.int (jv_rd (σ.1 23) 24 0 p1))) (σ' := σ) hE dX6_putAhead_13 rfl lN_X6_51 (ok_X7_at (n := 24) (by decide) rfl rfl) rfl (by decide) rfl (Nat.le_of_ble_eq_true rfl) ?_
  show jv_V E 16 [some (.ref 17), some (.int p1), none, none] [.int (jv_rd (σ.1 23) 24 0 p1), .int (f_X3_headOf σ p1)] σ
  refine jv_callS (pc' := 19) (o := some (.int (f_X6_entry σ (f_X3_headOf σ p1) (jv_rd (σ.1 23) 24 0 p1)))) (σ' := σ) hE dX6_putAhead_16 rfl lS_X6_82 (ok_X6_entry rfl) rfl (by decide) rfl (Nat.le_of_ble_eq_true rfl) ?_
  show jv_V E 19 [some (.ref 17), some (.int p1), none, none] [.int (f_X6_entry σ (f_X3_headOf σ p1) (jv_rd (σ.1 23) 24 0 p1))] σ
  refine jv_istore_n (x := (f_X6_entry σ (f_X3_headOf σ p1) (jv_rd (σ.1 23) 24 0 p1))) (L' := [some (.ref 17), some (.int p1), some (.int (f_X6_entry σ (f_X3_headOf σ p1) (jv_rd (σ.1 23) 24 0 p1))), none]) (pc' := 20) hE dX6_putAhead_19 rfl 2 rfl (by decide) rfl rfl ?_
  refine jv_aload_n (x := 17) (pc' := 21) hE dX6_putAhead_20 rfl 0 rfl rfl ?_
  refine jv_get (v := .ref 1) (pc' := 24) hE dX6_putAhead_21 rfl lF_X6_30 rfl rfl rfl ?_
  refine jv_iload_n (x := p1) (pc' := 25) hE dX6_putAhead_24 rfl 1 rfl rfl ?_
  refine jv_callV (pc' := 28) (o := some (.int (f_X3_lengthOf σ p1))) (σ' := σ) hE dX6_putAhead_25 rfl lV_X6_79 (ok_X3_lengthOf rfl) rfl rfl rfl (by decide) rfl (Nat.le_of_ble_eq_true rfl) ?_
  show jv_V E 28 [some (.ref 17), some (.int p1), some (.int (f_X6_entry σ (f_X3_headOf σ p1) (jv_rd (σ.1 23) 24 0 p1))), none] [.int (f_X3_lengthOf σ p1)] σ
  refine jv_aload_n (x := 17) (pc' := 29) hE dX6_putAhead_28 rfl 0 rfl rfl ?_
  refine jv_get (v := .ref 18) (pc' := 32) hE dX6_putAhead_29 rfl lF_X6_11 rfl rfl rfl ?_
  refine jv_iload_n (x := (f_X6_entry σ (f_X3_headOf σ p1) (jv_rd (σ.1 23) 24 0 p1))) (pc' := 33) hE dX6_putAhead_32 rfl 2 rfl rfl ?_
  refine jv_callN (pc' := 36) (o := some (.int (jv_rd (σ.1 18) 500 0 (f_X6_entry σ (f_X3_headOf σ p1) (jv_rd (σ.1 23) 24 0 p1))))) (σ' := σ) hE dX6_putAhead_33 rfl lN_X6_51 (ok_X7_at (n := 500) (by decide) rfl rfl) rfl (by decide) rfl (Nat.le_of_ble_eq_true rfl) ?_
  show jv_V E 36 [some (.ref 17), some (.int p1), some (.int (f_X6_entry σ (f_X3_headOf σ p1) (jv_rd (σ.1 23) 24 0 p1))), none] [.int (jv_rd (σ.1 18) 500 0 (f_X6_entry σ (f_X3_headOf σ p1) (jv_rd (σ.1 23) 24 0 p1))), .int (f_X3_lengthOf σ p1)] σ
  refine jv_iadd (x := (f_X3_lengthOf σ p1)) (y := (jv_rd (σ.1 18) 500 0 (f_X6_entry σ (f_X3_headOf σ p1) (jv_rd (σ.1 23) 24 0 p1)))) (pc' := 37) hE dX6_putAhead_36 rfl ?_
  refine jv_istore_n (x := ((f_X3_lengthOf σ p1) + (jv_rd (σ.1 18) 500 0 (f_X6_entry σ (f_X3_headOf σ p1) (jv_rd (σ.1 23) 24 0 p1))))) (L' := [some (.ref 17), some (.int p1), some (.int (f_X6_entry σ (f_X3_headOf σ p1) (jv_rd (σ.1 23) 24 0 p1))), some (.int ((f_X3_lengthOf σ p1) + (jv_rd (σ.1 18) 500 0 (f_X6_entry σ (f_X3_headOf σ p1) (jv_rd (σ.1 23) 24 0 p1)))))]) (pc' := 38) hE dX6_putAhead_37 rfl 3 rfl (by decide) rfl rfl ?_
  refine jv_aload_n (x := 17) (pc' := 39) hE dX6_putAhead_38 rfl 0 rfl rfl ?_
  refine jv_get (v := .ref 23) (pc' := 42) hE dX6_putAhead_39 rfl lF_X6_27 rfl rfl rfl ?_
  refine jv_iload_n (x := p1) (pc' := 43) hE dX6_putAhead_42 rfl 1 rfl rfl ?_
  refine jv_aload_n (x := 17) (pc' := 44) hE dX6_putAhead_43 rfl 0 rfl rfl ?_
  refine jv_get (v := .ref 23) (pc' := 47) hE dX6_putAhead_44 rfl lF_X6_27 rfl rfl rfl ?_
  refine jv_iload_n (x := p1) (pc' := 48) hE dX6_putAhead_47 rfl 1 rfl rfl ?_
  refine jv_callN (pc' := 51) (o := some (.int (jv_rd (σ.1 23) 24 0 p1))) (σ' := σ) hE dX6_putAhead_48 rfl lN_X6_51 (ok_X7_at (n := 24) (by decide) rfl rfl) rfl (by decide) rfl (Nat.le_of_ble_eq_true rfl) ?_
  show jv_V E 51 [some (.ref 17), some (.int p1), some (.int (f_X6_entry σ (f_X3_headOf σ p1) (jv_rd (σ.1 23) 24 0 p1))), some (.int ((f_X3_lengthOf σ p1) + (jv_rd (σ.1 18) 500 0 (f_X6_entry σ (f_X3_headOf σ p1) (jv_rd (σ.1 23) 24 0 p1)))))] [.int (jv_rd (σ.1 23) 24 0 p1), .int p1, .ref 23] σ
  refine jv_iconst (v := (1 : Int32)) (pc' := 52) hE dX6_putAhead_51 rfl (by decide) ?_
  refine jv_iadd (x := (jv_rd (σ.1 23) 24 0 p1)) (y := (1 : Int32)) (pc' := 53) hE dX6_putAhead_52 rfl ?_
  refine jv_callN (pc' := 56) (o := none) (σ' := (jv_wr σ 23 24 p1 ((jv_rd (σ.1 23) 24 0 p1) + (1 : Int32)))) hE dX6_putAhead_53 rfl lN_X6_86 (ok_X7_put (n := 24) (by decide) rfl rfl) rfl (by decide) rfl (Nat.le_of_ble_eq_true rfl) ?_
  show jv_V E 56 [some (.ref 17), some (.int p1), some (.int (f_X6_entry σ (f_X3_headOf σ p1) (jv_rd (σ.1 23) 24 0 p1))), some (.int ((f_X3_lengthOf σ p1) + (jv_rd (σ.1 18) 500 0 (f_X6_entry σ (f_X3_headOf σ p1) (jv_rd (σ.1 23) 24 0 p1)))))] [] (jv_wr σ 23 24 p1 ((jv_rd (σ.1 23) 24 0 p1) + (1 : Int32)))
  refine jv_aload_n (x := 17) (pc' := 57) hE dX6_putAhead_56 rfl 0 rfl rfl ?_
  refine jv_aload_n (x := 17) (pc' := 58) hE dX6_putAhead_57 rfl 0 rfl rfl ?_
  refine jv_get (v := .ref 1) (pc' := 61) hE dX6_putAhead_58 rfl lF_X6_30 rfl rfl rfl ?_
  refine jv_iload_n (x := p1) (pc' := 62) hE dX6_putAhead_61 rfl 1 rfl rfl ?_
  refine jv_callV (pc' := 65) (o := some (.int (f_X3_tailOf (jv_wr σ 23 24 p1 ((jv_rd (σ.1 23) 24 0 p1) + (1 : Int32))) p1))) (σ' := (jv_wr σ 23 24 p1 ((jv_rd (σ.1 23) 24 0 p1) + (1 : Int32)))) hE dX6_putAhead_62 rfl lV_X6_76 (ok_X3_tailOf rfl) rfl rfl rfl (by decide) rfl (Nat.le_of_ble_eq_true rfl) ?_
  show jv_V E 65 [some (.ref 17), some (.int p1), some (.int (f_X6_entry σ (f_X3_headOf σ p1) (jv_rd (σ.1 23) 24 0 p1))), some (.int ((f_X3_lengthOf σ p1) + (jv_rd (σ.1 18) 500 0 (f_X6_entry σ (f_X3_headOf σ p1) (jv_rd (σ.1 23) 24 0 p1)))))] [.int (f_X3_tailOf (jv_wr σ 23 24 p1 ((jv_rd (σ.1 23) 24 0 p1) + (1 : Int32))) p1), .ref 17] (jv_wr σ 23 24 p1 ((jv_rd (σ.1 23) 24 0 p1) + (1 : Int32)))
  refine jv_iload_n (x := ((f_X3_lengthOf σ p1) + (jv_rd (σ.1 18) 500 0 (f_X6_entry σ (f_X3_headOf σ p1) (jv_rd (σ.1 23) 24 0 p1))))) (pc' := 66) hE dX6_putAhead_65 rfl 3 rfl rfl ?_
  refine jv_aload_n (x := 17) (pc' := 67) hE dX6_putAhead_66 rfl 0 rfl rfl ?_
  refine jv_get (v := .ref 19) (pc' := 70) hE dX6_putAhead_67 rfl lF_X6_15 rfl rfl rfl ?_
  refine jv_iload_n (x := (f_X6_entry σ (f_X3_headOf σ p1) (jv_rd (σ.1 23) 24 0 p1))) (pc' := 71) hE dX6_putAhead_70 rfl 2 rfl rfl ?_
  refine jv_callN (pc' := 74) (o := some (.int (jv_rd ((jv_wr σ 23 24 p1 ((jv_rd (σ.1 23) 24 0 p1) + (1 : Int32))).1 19) 500 0 (f_X6_entry σ (f_X3_headOf σ p1) (jv_rd (σ.1 23) 24 0 p1))))) (σ' := (jv_wr σ 23 24 p1 ((jv_rd (σ.1 23) 24 0 p1) + (1 : Int32)))) hE dX6_putAhead_71 rfl lN_X6_51 (ok_X7_at (n := 500) (by decide) rfl rfl) rfl (by decide) rfl (Nat.le_of_ble_eq_true rfl) ?_
  show jv_V E 74 [some (.ref 17), some (.int p1), some (.int (f_X6_entry σ (f_X3_headOf σ p1) (jv_rd (σ.1 23) 24 0 p1))), some (.int ((f_X3_lengthOf σ p1) + (jv_rd (σ.1 18) 500 0 (f_X6_entry σ (f_X3_headOf σ p1) (jv_rd (σ.1 23) 24 0 p1)))))] [.int (jv_rd ((jv_wr σ 23 24 p1 ((jv_rd (σ.1 23) 24 0 p1) + (1 : Int32))).1 19) 500 0 (f_X6_entry σ (f_X3_headOf σ p1) (jv_rd (σ.1 23) 24 0 p1))), .int ((f_X3_lengthOf σ p1) + (jv_rd (σ.1 18) 500 0 (f_X6_entry σ (f_X3_headOf σ p1) (jv_rd (σ.1 23) 24 0 p1)))), .int (f_X3_tailOf (jv_wr σ 23 24 p1 ((jv_rd (σ.1 23) 24 0 p1) + (1 : Int32))) p1), .ref 17] (jv_wr σ 23 24 p1 ((jv_rd (σ.1 23) 24 0 p1) + (1 : Int32)))
  refine jv_iconst (v := (1 : Int32)) (pc' := 75) hE dX6_putAhead_74 rfl (by decide) ?_
  refine jv_iadd (x := (jv_rd ((jv_wr σ 23 24 p1 ((jv_rd (σ.1 23) 24 0 p1) + (1 : Int32))).1 19) 500 0 (f_X6_entry σ (f_X3_headOf σ p1) (jv_rd (σ.1 23) 24 0 p1)))) (y := (1 : Int32)) (pc' := 76) hE dX6_putAhead_75 rfl ?_
  refine jv_iload_n (x := p1) (pc' := 77) hE dX6_putAhead_76 rfl 1 rfl rfl ?_
  refine jv_iload_n (x := (f_X6_entry σ (f_X3_headOf σ p1) (jv_rd (σ.1 23) 24 0 p1))) (pc' := 78) hE dX6_putAhead_77 rfl 2 rfl rfl ?_
  obtain ⟨q1, hq1, h⟩ := jv_lt_eq h
  refine jv_callV (pc' := 81) (o := none) (σ' := q1) hE dX6_putAhead_78 rfl lV_X6_47 (ok_X6_list hq1) rfl rfl rfl (by decide) rfl (Nat.le_of_ble_eq_true rfl) ?_
  show jv_V E 81 [some (.ref 17), some (.int p1), some (.int (f_X6_entry σ (f_X3_headOf σ p1) (jv_rd (σ.1 23) 24 0 p1))), some (.int ((f_X3_lengthOf σ p1) + (jv_rd (σ.1 18) 500 0 (f_X6_entry σ (f_X3_headOf σ p1) (jv_rd (σ.1 23) 24 0 p1)))))] [] q1
  cases h
  exact hret _ _ dX6_putAhead_81
noncomputable def f_X6_advance_lp2 : Nat → Int32 → jv_S → Option ((Bool × jv_S) ⊕ (Int32 × jv_S))
  | 0, _, _ => none
  | n + 1, v1, σ => if (500 : Int32) ≤ v1 then (some (.inr (v1, σ))) else (if (σ.1 17 8) < (jv_rd (σ.1 22) 10 0 (σ.1 17 7)) then (some (.inr (v1, σ))) else (jv_bd (f_X6_shortestEdge σ) (fun q3 => if q3 = (-1 : Int32) then (some (.inl ((false, σ)))) else (jv_lt (f_X6_putAhead σ q3) (fun q5 => f_X6_advance_lp2 n (v1 + (1 : Int32)) q5)))))
noncomputable def f_X6_advance (σ : jv_S) : Option (Bool × jv_S) := jv_bd (f_X6_advance_lp2 jv_fuel (0 : Int32) σ) (fun q6 => Sum.elim (fun q6 => some q6) (fun q6 => some (true, (jv_si q6.2 17 8 ((q6.2.1 17 8) + (1 : Int32))))) q6)
set_option maxRecDepth 100000 in
set_option maxHeartbeats 4000000 in
theorem lp_X6_advance_2 {E : jv_E} (hE : jv_Cx E RX6 cX6_advance 3 4) : ∀ (n : Nat) (v1 : Int32) (σ : jv_S) (r : (Bool × jv_S) ⊕ (Int32 × jv_S)), f_X6_advance_lp2 n v1 σ = some r → (∀ q, r = .inr q → jv_V E 50 [some (.ref 17), none, none] [] q.2) → (∀ q, r = .inl q → jv_Rt E cX6_advance (some (.int (jv_b q.1))) q.2) → jv_V E 2 [some (.ref 17), some (.int v1), none] [] σ := by
  intro n
  induction n with
  | zero =>
    intro v1 σ r h
    rw [f_X6_advance_lp2] at h
    cases h
  | succ n ih =>
    intro v1 σ r h hk hr
    rw [f_X6_advance_lp2] at h
    refine jv_iload_n (x := v1) (pc' := 3) hE dX6_advance_2 rfl 1 rfl rfl ?_
    refine jv_sipush (v := (500 : Int32)) (pc' := 6) hE dX6_advance_3 rfl (by decide) ?_
    refine jv_icmp_ge (x := v1) (y := (500 : Int32)) (tgt := 50) (pc' := 9) hE dX6_advance_6 (by decide) rfl (fun c1 => ?_) (fun c1 => ?_)
    · rw [if_pos c1] at h
      cases h
      exact jv_forget [true, false, true] (hk (v1, σ) rfl)
    · rw [if_neg c1] at h
      refine jv_aload_n (x := 17) (pc' := 10) hE dX6_advance_9 rfl 0 rfl rfl ?_
      refine jv_get (v := .ref 22) (pc' := 13) hE dX6_advance_10 rfl lF_X6_24 rfl rfl rfl ?_
      refine jv_aload_n (x := 17) (pc' := 14) hE dX6_advance_13 rfl 0 rfl rfl ?_
      refine jv_get (v := .int (σ.1 17 7)) (pc' := 17) hE dX6_advance_14 rfl lF_X6_34 rfl rfl rfl ?_
      refine jv_callN (pc' := 20) (o := some (.int (jv_rd (σ.1 22) 10 0 (σ.1 17 7)))) (σ' := σ) hE dX6_advance_17 rfl lN_X6_51 (ok_X7_at (n := 10) (by decide) rfl rfl) rfl (by decide) rfl (Nat.le_of_ble_eq_true rfl) ?_
      show jv_V E 20 [some (.ref 17), some (.int v1), none] [.int (jv_rd (σ.1 22) 10 0 (σ.1 17 7))] σ
      refine jv_aload_n (x := 17) (pc' := 21) hE dX6_advance_20 rfl 0 rfl rfl ?_
      refine jv_get (v := .int (σ.1 17 8)) (pc' := 24) hE dX6_advance_21 rfl lF_X6_38 rfl rfl rfl ?_
      refine jv_icmp_gt (x := (jv_rd (σ.1 22) 10 0 (σ.1 17 7))) (y := (σ.1 17 8)) (tgt := 50) (pc' := 27) hE dX6_advance_24 (by decide) rfl (fun c2 => ?_) (fun c2 => ?_)
      · rw [if_pos c2] at h
        cases h
        exact jv_forget [true, false, true] (hk (v1, σ) rfl)
      · rw [if_neg c2] at h
        refine jv_aload_n (x := 17) (pc' := 28) hE dX6_advance_27 rfl 0 rfl rfl ?_
        obtain ⟨q3, hq3, h⟩ := jv_bd_some h
        refine jv_callV (pc' := 31) (o := some (.int q3)) (σ' := σ) hE dX6_advance_28 rfl lV_X6_55 (ok_X6_shortestEdge hq3) rfl rfl rfl (by decide) rfl (Nat.le_of_ble_eq_true rfl) ?_
        show jv_V E 31 [some (.ref 17), some (.int v1), none] [.int q3] σ
        refine jv_istore_n (x := q3) (L' := [some (.ref 17), some (.int v1), some (.int q3)]) (pc' := 32) hE dX6_advance_31 rfl 2 rfl (by decide) rfl rfl ?_
        refine jv_iload_n (x := q3) (pc' := 33) hE dX6_advance_32 rfl 2 rfl rfl ?_
        refine jv_iconst (v := (-1 : Int32)) (pc' := 34) hE dX6_advance_33 rfl (by decide) ?_
        refine jv_icmp_ne (x := q3) (y := (-1 : Int32)) (tgt := 39) (pc' := 37) hE dX6_advance_34 (by decide) rfl (fun c4 => ?_) (fun c4 => ?_)
        · rw [if_neg c4] at h
          refine jv_aload_n (x := 17) (pc' := 40) hE dX6_advance_39 rfl 0 rfl rfl ?_
          refine jv_iload_n (x := q3) (pc' := 41) hE dX6_advance_40 rfl 2 rfl rfl ?_
          obtain ⟨q5, hq5, h⟩ := jv_lt_eq h
          refine jv_callV (pc' := 44) (o := none) (σ' := q5) hE dX6_advance_41 rfl lV_X6_59 (ok_X6_putAhead hq5) rfl rfl rfl (by decide) rfl (Nat.le_of_ble_eq_true rfl) ?_
          show jv_V E 44 [some (.ref 17), some (.int v1), some (.int q3)] [] q5
          refine jv_iinc (x := v1) (v := (v1 + (1 : Int32))) (L' := [some (.ref 17), some (.int (v1 + (1 : Int32))), some (.int q3)]) (pc' := 47) hE dX6_advance_44 rfl rfl rfl (by decide) rfl rfl ?_
          refine jv_goto (tgt := 2) hE dX6_advance_47 (by decide) ?_
          exact jv_forget [true, true, false] (ih (v1 + (1 : Int32)) q5 _ h hk hr)
        · rw [if_pos c4] at h
          refine jv_iconst (v := (0 : Int32)) (pc' := 38) hE dX6_advance_37 rfl (by decide) ?_
          cases h
          exact hr ((false, σ)) rfl _ _ dX6_advance_38
set_option maxRecDepth 100000 in
set_option maxHeartbeats 4000000 in
theorem ok_X6_advance {G : jv_G} {l : Launch} {σ : jv_S} {r : Bool × jv_S} (h : f_X6_advance σ = some r) : jv_Cn G l 4 M_X6_advance [.ref 17] σ (some (.int (jv_b r.1))) r.2 := by
  refine jv_of (L0 := [some (.ref 17), none, none]) (by decide +kernel) (Nat.le_of_ble_eq_true rfl) rfl (jv_okZ _) (fun E e1 e2 hE hret => ?_)
  unfold f_X6_advance at h
  refine jv_iconst (v := (0 : Int32)) (pc' := 1) hE dX6_advance_0 rfl (by decide) ?_
  refine jv_istore_n (x := (0 : Int32)) (L' := [some (.ref 17), some (.int (0 : Int32)), none]) (pc' := 2) hE dX6_advance_1 rfl 1 rfl (by decide) rfl rfl ?_
  obtain ⟨q6, hq6, h⟩ := jv_bd_some h
  refine jv_forget [true, true, true] (lp_X6_advance_2 hE jv_fuel (0 : Int32) σ _ hq6 (fun z hz => ?_) (fun z hz => ?_))
  · subst hz
    simp only [Sum.elim_inr] at h
    refine jv_aload_n (x := 17) (pc' := 51) hE dX6_advance_50 rfl 0 rfl rfl ?_
    refine jv_dup (pc' := 52) hE dX6_advance_51 rfl rfl ?_
    refine jv_get (v := .int (z.2.1 17 8)) (pc' := 55) hE dX6_advance_52 rfl lF_X6_38 rfl rfl rfl ?_
    refine jv_iconst (v := (1 : Int32)) (pc' := 56) hE dX6_advance_55 rfl (by decide) ?_
    refine jv_iadd (x := (z.2.1 17 8)) (y := (1 : Int32)) (pc' := 57) hE dX6_advance_56 rfl ?_
    refine jv_puti (x := ((z.2.1 17 8) + (1 : Int32))) (pc' := 60) hE dX6_advance_57 rfl lP_X6_38 rfl rfl rfl rfl ?_
    refine jv_iconst (v := (1 : Int32)) (pc' := 61) hE dX6_advance_60 rfl (by decide) ?_
    cases h
    exact hret _ _ dX6_advance_61
  · subst hz
    simp only [Sum.elim_inl] at h
    cases h
    exact hret
noncomputable def f_X6_currentEntry (σ : jv_S) : Int32 := (f_X6_entry σ (σ.1 17 7) ((σ.1 17 8) - (1 : Int32)))
set_option maxRecDepth 100000 in
set_option maxHeartbeats 4000000 in
theorem ok_X6_currentEntry {G : jv_G} {l : Launch} {σ : jv_S} {r : Int32} (h : f_X6_currentEntry σ = r) : jv_Cn G l 2 M_X6_currentEntry [.ref 17] σ (some (.int r)) σ := by
  refine jv_of (L0 := [some (.ref 17)]) (by decide +kernel) (Nat.le_of_ble_eq_true rfl) rfl (jv_okI _) (fun E e1 e2 hE hret => ?_)
  unfold f_X6_currentEntry at h
  refine jv_aload_n (x := 17) (pc' := 1) hE dX6_currentEntry_0 rfl 0 rfl rfl ?_
  refine jv_get (v := .int (σ.1 17 7)) (pc' := 4) hE dX6_currentEntry_1 rfl lF_X6_34 rfl rfl rfl ?_
  refine jv_aload_n (x := 17) (pc' := 5) hE dX6_currentEntry_4 rfl 0 rfl rfl ?_
  refine jv_get (v := .int (σ.1 17 8)) (pc' := 8) hE dX6_currentEntry_5 rfl lF_X6_38 rfl rfl rfl ?_
  refine jv_iconst (v := (1 : Int32)) (pc' := 9) hE dX6_currentEntry_8 rfl (by decide) ?_
  refine jv_isub (x := (σ.1 17 8)) (y := (1 : Int32)) (pc' := 10) hE dX6_currentEntry_9 rfl ?_
  refine jv_callS (pc' := 13) (o := some (.int (f_X6_entry σ (σ.1 17 7) ((σ.1 17 8) - (1 : Int32))))) (σ' := σ) hE dX6_currentEntry_10 rfl lS_X6_82 (ok_X6_entry rfl) rfl (by decide) rfl (Nat.le_of_ble_eq_true rfl) ?_
  show jv_V E 13 [some (.ref 17)] [.int (f_X6_entry σ (σ.1 17 7) ((σ.1 17 8) - (1 : Int32)))] σ
  cases h
  exact hret _ _ dX6_currentEntry_13
noncomputable def f_X6_currentLength (σ : jv_S) : Int32 := (jv_rd (σ.1 18) 500 0 (f_X6_currentEntry σ))
set_option maxRecDepth 100000 in
set_option maxHeartbeats 4000000 in
theorem ok_X6_currentLength {G : jv_G} {l : Launch} {σ : jv_S} {r : Int32} (h : f_X6_currentLength σ = r) : jv_Cn G l 3 M_X6_currentLength [.ref 17] σ (some (.int r)) σ := by
  refine jv_of (L0 := [some (.ref 17)]) (by decide +kernel) (Nat.le_of_ble_eq_true rfl) rfl (jv_okI _) (fun E e1 e2 hE hret => ?_)
  unfold f_X6_currentLength at h
  refine jv_aload_n (x := 17) (pc' := 1) hE dX6_currentLength_0 rfl 0 rfl rfl ?_
  refine jv_get (v := .ref 18) (pc' := 4) hE dX6_currentLength_1 rfl lF_X6_11 rfl rfl rfl ?_
  refine jv_aload_n (x := 17) (pc' := 5) hE dX6_currentLength_4 rfl 0 rfl rfl ?_
  refine jv_callV (pc' := 8) (o := some (.int (f_X6_currentEntry σ))) (σ' := σ) hE dX6_currentLength_5 rfl lV_X6_90 (ok_X6_currentEntry rfl) rfl rfl rfl (by decide) rfl (Nat.le_of_ble_eq_true rfl) ?_
  show jv_V E 8 [some (.ref 17)] [.int (f_X6_currentEntry σ), .ref 18] σ
  refine jv_callN (pc' := 11) (o := some (.int (jv_rd (σ.1 18) 500 0 (f_X6_currentEntry σ)))) (σ' := σ) hE dX6_currentLength_8 rfl lN_X6_51 (ok_X7_at (n := 500) (by decide) rfl rfl) rfl (by decide) rfl (Nat.le_of_ble_eq_true rfl) ?_
  show jv_V E 11 [some (.ref 17)] [.int (jv_rd (σ.1 18) 500 0 (f_X6_currentEntry σ))] σ
  cases h
  exact hret _ _ dX6_currentLength_11
noncomputable def f_X6_currentSize (σ : jv_S) : Int32 := (jv_rd (σ.1 19) 500 0 (f_X6_currentEntry σ))
set_option maxRecDepth 100000 in
set_option maxHeartbeats 4000000 in
theorem ok_X6_currentSize {G : jv_G} {l : Launch} {σ : jv_S} {r : Int32} (h : f_X6_currentSize σ = r) : jv_Cn G l 3 M_X6_currentSize [.ref 17] σ (some (.int r)) σ := by
  refine jv_of (L0 := [some (.ref 17)]) (by decide +kernel) (Nat.le_of_ble_eq_true rfl) rfl (jv_okI _) (fun E e1 e2 hE hret => ?_)
  unfold f_X6_currentSize at h
  refine jv_aload_n (x := 17) (pc' := 1) hE dX6_currentSize_0 rfl 0 rfl rfl ?_
  refine jv_get (v := .ref 19) (pc' := 4) hE dX6_currentSize_1 rfl lF_X6_15 rfl rfl rfl ?_
  refine jv_aload_n (x := 17) (pc' := 5) hE dX6_currentSize_4 rfl 0 rfl rfl ?_
  refine jv_callV (pc' := 8) (o := some (.int (f_X6_currentEntry σ))) (σ' := σ) hE dX6_currentSize_5 rfl lV_X6_90 (ok_X6_currentEntry rfl) rfl rfl rfl (by decide) rfl (Nat.le_of_ble_eq_true rfl) ?_
  show jv_V E 8 [some (.ref 17)] [.int (f_X6_currentEntry σ), .ref 19] σ
  refine jv_callN (pc' := 11) (o := some (.int (jv_rd (σ.1 19) 500 0 (f_X6_currentEntry σ)))) (σ' := σ) hE dX6_currentSize_8 rfl lN_X6_51 (ok_X7_at (n := 500) (by decide) rfl rfl) rfl (by decide) rfl (Nat.le_of_ble_eq_true rfl) ?_
  show jv_V E 11 [some (.ref 17)] [.int (jv_rd (σ.1 19) 500 0 (f_X6_currentEntry σ))] σ
  cases h
  exact hret _ _ dX6_currentSize_11
noncomputable def f_X6_currentEdge_lp21 (a1 : Int32) : Nat → Int32 → Int32 → jv_S → Option (Int32 × Int32)
  | 0, _, _, _ => none
  | n + 1, v2, v3, σ => if a1 ≤ v3 then (some (v2, v3)) else (f_X6_currentEdge_lp21 a1 n (jv_rd (σ.1 21) 500 0 v2) (v3 + (1 : Int32)) σ)
noncomputable def f_X6_currentEdge (σ : jv_S) (p1 : Int32) : Option (Int32) := if p1 < 0 then (some (-1 : Int32)) else (if p1 < (f_X6_currentSize σ) then (jv_bd (f_X6_currentEdge_lp21 p1 jv_fuel (f_X6_currentEntry σ) (0 : Int32) σ) (fun q4 => some (jv_rd (σ.1 20) 500 0 q4.1))) else (some (-1 : Int32)))
set_option maxRecDepth 100000 in
set_option maxHeartbeats 4000000 in
theorem lp_X6_currentEdge_21 {σ : jv_S} {a1 : Int32} {E : jv_E} (hE : jv_Cx E RX6 cX6_currentEdge 4 4) : ∀ (n : Nat) (v2 : Int32) (v3 : Int32)  (q : Int32 × Int32), f_X6_currentEdge_lp21 a1 n v2 v3 σ = some q → (jv_V E 41 [some (.ref 17), none, some (.int q.1), none] [] σ) → jv_V E 21 [some (.ref 17), some (.int a1), some (.int v2), some (.int v3)] [] σ := by
  intro n
  induction n with
  | zero =>
    intro v2 v3 q h
    rw [f_X6_currentEdge_lp21] at h
    cases h
  | succ n ih =>
    intro v2 v3 q h hk
    rw [f_X6_currentEdge_lp21] at h
    refine jv_iload_n (x := v3) (pc' := 22) hE dX6_currentEdge_21 rfl 3 rfl rfl ?_
    refine jv_iload_n (x := a1) (pc' := 23) hE dX6_currentEdge_22 rfl 1 rfl rfl ?_
    refine jv_icmp_ge (x := v3) (y := a1) (tgt := 41) (pc' := 26) hE dX6_currentEdge_23 (by decide) rfl (fun c3 => ?_) (fun c3 => ?_)
    · rw [if_pos c3] at h
      cases h
      exact jv_forget [true, false, true, false] hk
    · rw [if_neg c3] at h
      refine jv_aload_n (x := 17) (pc' := 27) hE dX6_currentEdge_26 rfl 0 rfl rfl ?_
      refine jv_get (v := .ref 21) (pc' := 30) hE dX6_currentEdge_27 rfl lF_X6_21 rfl rfl rfl ?_
      refine jv_iload_n (x := v2) (pc' := 31) hE dX6_currentEdge_30 rfl 2 rfl rfl ?_
      refine jv_callN (pc' := 34) (o := some (.int (jv_rd (σ.1 21) 500 0 v2))) (σ' := σ) hE dX6_currentEdge_31 rfl lN_X6_51 (ok_X7_at (n := 500) (by decide) rfl rfl) rfl (by decide) rfl (Nat.le_of_ble_eq_true rfl) ?_
      show jv_V E 34 [some (.ref 17), some (.int a1), some (.int v2), some (.int v3)] [.int (jv_rd (σ.1 21) 500 0 v2)] σ
      refine jv_istore_n (x := (jv_rd (σ.1 21) 500 0 v2)) (L' := [some (.ref 17), some (.int a1), some (.int (jv_rd (σ.1 21) 500 0 v2)), some (.int v3)]) (pc' := 35) hE dX6_currentEdge_34 rfl 2 rfl (by decide) rfl rfl ?_
      refine jv_iinc (x := v3) (v := (v3 + (1 : Int32))) (L' := [some (.ref 17), some (.int a1), some (.int (jv_rd (σ.1 21) 500 0 v2)), some (.int (v3 + (1 : Int32)))]) (pc' := 38) hE dX6_currentEdge_35 rfl rfl rfl (by decide) rfl rfl ?_
      refine jv_goto (tgt := 21) hE dX6_currentEdge_38 (by decide) ?_
      exact jv_forget [true, true, true, true] (ih (jv_rd (σ.1 21) 500 0 v2) (v3 + (1 : Int32)) _ h hk)
set_option maxRecDepth 100000 in
set_option maxHeartbeats 4000000 in
theorem ok_X6_currentEdge {G : jv_G} {l : Launch} {σ : jv_S} {p1 : Int32} {r : Int32} (h : f_X6_currentEdge σ p1 = some r) : jv_Cn G l 4 M_X6_currentEdge [.ref 17, .int p1] σ (some (.int r)) σ := by
  refine jv_of (L0 := [some (.ref 17), some (.int p1), none, none]) (by decide +kernel) (Nat.le_of_ble_eq_true rfl) rfl (jv_okI _) (fun E e1 e2 hE hret => ?_)
  unfold f_X6_currentEdge at h
  refine jv_iload_n (x := p1) (pc' := 1) hE dX6_currentEdge_0 rfl 1 rfl rfl ?_
  refine jv_if_lt (x := p1) (tgt := 12) (pc' := 4) hE dX6_currentEdge_1 (by decide) rfl (fun c1 => ?_) (fun c1 => ?_)
  · rw [if_pos c1] at h
    refine jv_iconst (v := (-1 : Int32)) (pc' := 13) hE dX6_currentEdge_12 rfl (by decide) ?_
    cases h
    exact hret _ _ dX6_currentEdge_13
  · rw [if_neg c1] at h
    refine jv_iload_n (x := p1) (pc' := 5) hE dX6_currentEdge_4 rfl 1 rfl rfl ?_
    refine jv_aload_n (x := 17) (pc' := 6) hE dX6_currentEdge_5 rfl 0 rfl rfl ?_
    refine jv_callV (pc' := 9) (o := some (.int (f_X6_currentSize σ))) (σ' := σ) hE dX6_currentEdge_6 rfl lV_X6_93 (ok_X6_currentSize rfl) rfl rfl rfl (by decide) rfl (Nat.le_of_ble_eq_true rfl) ?_
    show jv_V E 9 [some (.ref 17), some (.int p1), none, none] [.int (f_X6_currentSize σ), .int p1] σ
    refine jv_icmp_lt (x := p1) (y := (f_X6_currentSize σ)) (tgt := 14) (pc' := 12) hE dX6_currentEdge_9 (by decide) rfl (fun c2 => ?_) (fun c2 => ?_)
    · rw [if_pos c2] at h
      refine jv_aload_n (x := 17) (pc' := 15) hE dX6_currentEdge_14 rfl 0 rfl rfl ?_
      refine jv_callV (pc' := 18) (o := some (.int (f_X6_currentEntry σ))) (σ' := σ) hE dX6_currentEdge_15 rfl lV_X6_90 (ok_X6_currentEntry rfl) rfl rfl rfl (by decide) rfl (Nat.le_of_ble_eq_true rfl) ?_
      show jv_V E 18 [some (.ref 17), some (.int p1), none, none] [.int (f_X6_currentEntry σ)] σ
      refine jv_istore_n (x := (f_X6_currentEntry σ)) (L' := [some (.ref 17), some (.int p1), some (.int (f_X6_currentEntry σ)), none]) (pc' := 19) hE dX6_currentEdge_18 rfl 2 rfl (by decide) rfl rfl ?_
      refine jv_iconst (v := (0 : Int32)) (pc' := 20) hE dX6_currentEdge_19 rfl (by decide) ?_
      refine jv_istore_n (x := (0 : Int32)) (L' := [some (.ref 17), some (.int p1), some (.int (f_X6_currentEntry σ)), some (.int (0 : Int32))]) (pc' := 21) hE dX6_currentEdge_20 rfl 3 rfl (by decide) rfl rfl ?_
      obtain ⟨q4, hq4, h⟩ := jv_bd_some h
      refine jv_forget [true, true, true, true] (lp_X6_currentEdge_21 hE jv_fuel (f_X6_currentEntry σ) (0 : Int32) _ hq4 ?_)
      refine jv_aload_n (x := 17) (pc' := 42) hE dX6_currentEdge_41 rfl 0 rfl rfl ?_
      refine jv_get (v := .ref 20) (pc' := 45) hE dX6_currentEdge_42 rfl lF_X6_18 rfl rfl rfl ?_
      refine jv_iload_n (x := q4.1) (pc' := 46) hE dX6_currentEdge_45 rfl 2 rfl rfl ?_
      refine jv_callN (pc' := 49) (o := some (.int (jv_rd (σ.1 20) 500 0 q4.1))) (σ' := σ) hE dX6_currentEdge_46 rfl lN_X6_51 (ok_X7_at (n := 500) (by decide) rfl rfl) rfl (by decide) rfl (Nat.le_of_ble_eq_true rfl) ?_
      show jv_V E 49 [some (.ref 17), none, some (.int q4.1), none] [.int (jv_rd (σ.1 20) 500 0 q4.1)] σ
      cases h
      exact hret _ _ dX6_currentEdge_49
    · rw [if_neg c2] at h
      refine jv_iconst (v := (-1 : Int32)) (pc' := 13) hE dX6_currentEdge_12 rfl (by decide) ?_
      cases h
      exact hret _ _ dX6_currentEdge_13
