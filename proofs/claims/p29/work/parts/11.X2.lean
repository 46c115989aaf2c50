noncomputable def f_X2_ofNode (a : Nat) (σ : jv_S) (p1 : Int32) : Int32 := (jv_rd (σ.1 a) 10 0 p1)
set_option maxRecDepth 100000 in
set_option maxHeartbeats 4000000 in
theorem ok_X2_ofNode_8 {G : jv_G} {l : Launch} {σ : jv_S} {p1 : Int32} {r : Int32} (h : f_X2_ofNode 9 σ p1 = r) : jv_Cn G l 2 M_X2_ofNode [.ref 8, .int p1] σ (some (.int r)) σ := by
  refine jv_of (L0 := [some (.ref 8), some (.int p1)]) (by decide +kernel) (Nat.le_of_ble_eq_true rfl) rfl (jv_okI _) (fun E e1 e2 hE hret => ?_)
  unfold f_X2_ofNode at h
  refine jv_aload_n (x := 8) (pc' := 1) hE dX2_ofNode_0 rfl 0 rfl rfl ?_
  refine jv_get (v := .ref 9) (pc' := 4) hE dX2_ofNode_1 rfl lF_X2_9 rfl rfl rfl ?_
  refine jv_iload_n (x := p1) (pc' := 5) hE dX2_ofNode_4 rfl 1 rfl rfl ?_
  refine jv_callN (pc' := 8) (o := some (.int (jv_rd (σ.1 9) 10 0 p1))) (σ' := σ) hE dX2_ofNode_5 rfl lN_X2_56 (ok_X7_at (n := 10) (by decide) rfl rfl) rfl (by decide) rfl (Nat.le_of_ble_eq_true rfl) ?_
  show jv_V E 8 [some (.ref 8), some (.int p1)] [.int (jv_rd (σ.1 9) 10 0 p1)] σ
  cases h
  exact hret _ _ dX2_ofNode_8
set_option maxRecDepth 100000 in
set_option maxHeartbeats 4000000 in
theorem ok_X2_ofNode_12 {G : jv_G} {l : Launch} {σ : jv_S} {p1 : Int32} {r : Int32} (h : f_X2_ofNode 13 σ p1 = r) : jv_Cn G l 2 M_X2_ofNode [.ref 12, .int p1] σ (some (.int r)) σ := by
  refine jv_of (L0 := [some (.ref 12), some (.int p1)]) (by decide +kernel) (Nat.le_of_ble_eq_true rfl) rfl (jv_okI _) (fun E e1 e2 hE hret => ?_)
  unfold f_X2_ofNode at h
  refine jv_aload_n (x := 12) (pc' := 1) hE dX2_ofNode_0 rfl 0 rfl rfl ?_
  refine jv_get (v := .ref 13) (pc' := 4) hE dX2_ofNode_1 rfl lF_X2_9 rfl rfl rfl ?_
  refine jv_iload_n (x := p1) (pc' := 5) hE dX2_ofNode_4 rfl 1 rfl rfl ?_
  refine jv_callN (pc' := 8) (o := some (.int (jv_rd (σ.1 13) 10 0 p1))) (σ' := σ) hE dX2_ofNode_5 rfl lN_X2_56 (ok_X7_at (n := 10) (by decide) rfl rfl) rfl (by decide) rfl (Nat.le_of_ble_eq_true rfl) ?_
  show jv_V E 8 [some (.ref 12), some (.int p1)] [.int (jv_rd (σ.1 13) 10 0 p1)] σ
  cases h
  exact hret _ _ dX2_ofNode_8
set_option maxRecDepth 100000 in
set_option maxHeartbeats 4000000 in
theorem ok_X2_ofNode_15 {G : jv_G} {l : Launch} {σ : jv_S} {p1 : Int32} {r : Int32} (h : f_X2_ofNode 16 σ p1 = r) : jv_Cn G l 2 M_X2_ofNode [.ref 15, .int p1] σ (some (.int r)) σ := by
  refine jv_of (L0 := [some (.ref 15), some (.int p1)]) (by decide +kernel) (Nat.le_of_ble_eq_true rfl) rfl (jv_okI _) (fun E e1 e2 hE hret => ?_)
  unfold f_X2_ofNode at h
  refine jv_aload_n (x := 15) (pc' := 1) hE dX2_ofNode_0 rfl 0 rfl rfl ?_
  refine jv_get (v := .ref 16) (pc' := 4) hE dX2_ofNode_1 rfl lF_X2_9 rfl rfl rfl ?_
  refine jv_iload_n (x := p1) (pc' := 5) hE dX2_ofNode_4 rfl 1 rfl rfl ?_
  refine jv_callN (pc' := 8) (o := some (.int (jv_rd (σ.1 16) 10 0 p1))) (σ' := σ) hE dX2_ofNode_5 rfl lN_X2_56 (ok_X7_at (n := 10) (by decide) rfl rfl) rfl (by decide) rfl (Nat.le_of_ble_eq_true rfl) ?_
  show jv_V E 8 [some (.ref 15), some (.int p1)] [.int (jv_rd (σ.1 16) 10 0 p1)] σ
  cases h
  exact hret _ _ dX2_ofNode_8
noncomputable def f_X2_shortenAll_lp4 (a : Nat) : Nat → Bool → Int32 → jv_S → Option (Bool × Int32 × jv_S)
  | 0, _, _, _ => none
  | n + 1, v1, v2, σ => if (f_X3_usableTotal σ) ≤ v2 then (some (v1, v2, σ)) else (jv_lt (if (f_X2_ofNode a σ (f_X3_tailOf σ (f_X3_outEdge σ v2))) ≤ ((f_X3_lengthOf σ (f_X3_outEdge σ v2)) + (f_X2_ofNode a σ (f_X3_headOf σ (f_X3_outEdge σ v2)))) then ((v1, σ)) else ((true, (jv_wr σ a 10 (f_X3_tailOf σ (f_X3_outEdge σ v2)) ((f_X3_lengthOf σ (f_X3_outEdge σ v2)) + (f_X2_ofNode a σ (f_X3_headOf σ (f_X3_outEdge σ v2)))))))) (fun q3 => f_X2_shortenAll_lp4 a n q3.1 (v2 + (1 : Int32)) q3.2))
noncomputable def f_X2_shortenAll (a : Nat) (σ : jv_S) : Option (Bool × jv_S) := jv_bd (f_X2_shortenAll_lp4 a jv_fuel false (0 : Int32) σ) (fun q4 => some (q4.1, q4.2.2))
set_option maxRecDepth 100000 in
set_option maxHeartbeats 4000000 in
theorem lp_X2_shortenAll_8_4 {E : jv_E} (hE : jv_Cx E RX2 cX2_shortenAll 5 3) : ∀ (n : Nat) (v1 : Bool) (v2 : Int32) (σ : jv_S) (q : Bool × Int32 × jv_S), f_X2_shortenAll_lp4 9 n v1 v2 σ = some q → (jv_V E 89 [none, some (.int (jv_b q.1)), none, none, none] [] q.2.2) → jv_V E 4 [some (.ref 8), some (.int (jv_b v1)), some (.int v2), none, none] [] σ := by
  intro n
  induction n with
  | zero =>
    intro v1 v2 σ q h
    rw [f_X2_shortenAll_lp4] at h
    cases h
  | succ n ih =>
    intro v1 v2 σ q h hk
    rw [f_X2_shortenAll_lp4] at h
    refine jv_iload_n (x := v2) (pc' := 5) hE dX2_shortenAll_4 rfl 2 rfl rfl ?_
    refine jv_aload_n (x := 8) (pc' := 6) hE dX2_shortenAll_5 rfl 0 rfl rfl ?_
    refine jv_get (v := .ref 1) (pc' := 9) hE dX2_shortenAll_6 rfl lF_X2_15 rfl rfl rfl ?_
    refine jv_callV (pc' := 12) (o := some (.int (f_X3_usableTotal σ))) (σ' := σ) hE dX2_shortenAll_9 rfl lV_X2_34 (ok_X3_usableTotal rfl) rfl rfl rfl (by decide) rfl (Nat.le_of_ble_eq_true rfl) ?_
    show jv_V E 12 [some (.ref 8), some (.int (jv_b v1)), some (.int v2), none, none] [.int (f_X3_usableTotal σ), .int v2] σ
    refine jv_icmp_ge (x := v2) (y := (f_X3_usableTotal σ)) (tgt := 89) (pc' := 15) hE dX2_shortenAll_12 (by decide) rfl (fun c1 => ?_) (fun c1 => ?_)
    · rw [if_pos c1] at h
      cases h
      exact jv_forget [false, true, false, true, true] hk
    · rw [if_neg c1] at h
      refine jv_aload_n (x := 8) (pc' := 16) hE dX2_shortenAll_15 rfl 0 rfl rfl ?_
      refine jv_get (v := .ref 1) (pc' := 19) hE dX2_shortenAll_16 rfl lF_X2_15 rfl rfl rfl ?_
      refine jv_iload_n (x := v2) (pc' := 20) hE dX2_shortenAll_19 rfl 2 rfl rfl ?_
      refine jv_callV (pc' := 23) (o := some (.int (f_X3_outEdge σ v2))) (σ' := σ) hE dX2_shortenAll_20 rfl lV_X2_40 (ok_X3_outEdge rfl) rfl rfl rfl (by decide) rfl (Nat.le_of_ble_eq_true rfl) ?_
      show jv_V E 23 [some (.ref 8), some (.int (jv_b v1)), some (.int v2), none, none] [.int (f_X3_outEdge σ v2)] σ
      refine jv_istore_n (x := (f_X3_outEdge σ v2)) (L' := [some (.ref 8), some (.int (jv_b v1)), some (.int v2), some (.int (f_X3_outEdge σ v2)), none]) (pc' := 24) hE dX2_shortenAll_23 rfl 3 rfl (by decide) rfl rfl ?_
      refine jv_aload_n (x := 8) (pc' := 25) hE dX2_shortenAll_24 rfl 0 rfl rfl ?_
      refine jv_get (v := .ref 1) (pc' := 28) hE dX2_shortenAll_25 rfl lF_X2_15 rfl rfl rfl ?_
      refine jv_iload_n (x := (f_X3_outEdge σ v2)) (pc' := 29) hE dX2_shortenAll_28 rfl 3 rfl rfl ?_
      refine jv_callV (pc' := 32) (o := some (.int (f_X3_lengthOf σ (f_X3_outEdge σ v2)))) (σ' := σ) hE dX2_shortenAll_29 rfl lV_X2_44 (ok_X3_lengthOf rfl) rfl rfl rfl (by decide) rfl (Nat.le_of_ble_eq_true rfl) ?_
      show jv_V E 32 [some (.ref 8), some (.int (jv_b v1)), some (.int v2), some (.int (f_X3_outEdge σ v2)), none] [.int (f_X3_lengthOf σ (f_X3_outEdge σ v2))] σ
      refine jv_aload_n (x := 8) (pc' := 33) hE dX2_shortenAll_32 rfl 0 rfl rfl ?_
      refine jv_aload_n (x := 8) (pc' := 34) hE dX2_shortenAll_33 rfl 0 rfl rfl ?_
      refine jv_get (v := .ref 1) (pc' := 37) hE dX2_shortenAll_34 rfl lF_X2_15 rfl rfl rfl ?_
      refine jv_iload_n (x := (f_X3_outEdge σ v2)) (pc' := 38) hE dX2_shortenAll_37 rfl 3 rfl rfl ?_
      refine jv_callV (pc' := 41) (o := some (.int (f_X3_headOf σ (f_X3_outEdge σ v2)))) (σ' := σ) hE dX2_shortenAll_38 rfl lV_X2_47 (ok_X3_headOf rfl) rfl rfl rfl (by decide) rfl (Nat.le_of_ble_eq_true rfl) ?_
      show jv_V E 41 [some (.ref 8), some (.int (jv_b v1)), some (.int v2), some (.int (f_X3_outEdge σ v2)), none] [.int (f_X3_headOf σ (f_X3_outEdge σ v2)), .ref 8, .int (f_X3_lengthOf σ (f_X3_outEdge σ v2))] σ
      refine jv_callV (pc' := 44) (o := some (.int (f_X2_ofNode 9 σ (f_X3_headOf σ (f_X3_outEdge σ v2))))) (σ' := σ) hE dX2_shortenAll_41 rfl lV_X2_50 (ok_X2_ofNode_8 rfl) rfl rfl rfl (by decide) rfl (Nat.le_of_ble_eq_true rfl) ?_
      show jv_V E 44 [some (.ref 8), some (.int (jv_b v1)), some (.int v2), some (.int (f_X3_outEdge σ v2)), none] [.int (f_X2_ofNode 9 σ (f_X3_headOf σ (f_X3_outEdge σ v2))), .int (f_X3_lengthOf σ (f_X3_outEdge σ v2))] σ
      refine jv_iadd (x := (f_X3_lengthOf σ (f_X3_outEdge σ v2))) (y := (f_X2_ofNode 9 σ (f_X3_headOf σ (f_X3_outEdge σ v2)))) (pc' := 45) hE dX2_shortenAll_44 rfl ?_
      refine jv_istore (x := ((f_X3_lengthOf σ (f_X3_outEdge σ v2)) + (f_X2_ofNode 9 σ (f_X3_headOf σ (f_X3_outEdge σ v2))))) (L' := [some (.ref 8), some (.int (jv_b v1)), some (.int v2), some (.int (f_X3_outEdge σ v2)), some (.int ((f_X3_lengthOf σ (f_X3_outEdge σ v2)) + (f_X2_ofNode 9 σ (f_X3_headOf σ (f_X3_outEdge σ v2)))))]) (pc' := 47) hE dX2_shortenAll_45 rfl (by decide) rfl rfl ?_
      refine jv_iload (x := ((f_X3_lengthOf σ (f_X3_outEdge σ v2)) + (f_X2_ofNode 9 σ (f_X3_headOf σ (f_X3_outEdge σ v2))))) (pc' := 49) hE dX2_shortenAll_47 rfl rfl ?_
      refine jv_aload_n (x := 8) (pc' := 50) hE dX2_shortenAll_49 rfl 0 rfl rfl ?_
      refine jv_aload_n (x := 8) (pc' := 51) hE dX2_shortenAll_50 rfl 0 rfl rfl ?_
      refine jv_get (v := .ref 1) (pc' := 54) hE dX2_shortenAll_51 rfl lF_X2_15 rfl rfl rfl ?_
      refine jv_iload_n (x := (f_X3_outEdge σ v2)) (pc' := 55) hE dX2_shortenAll_54 rfl 3 rfl rfl ?_
      refine jv_callV (pc' := 58) (o := some (.int (f_X3_tailOf σ (f_X3_outEdge σ v2)))) (σ' := σ) hE dX2_shortenAll_55 rfl lV_X2_53 (ok_X3_tailOf rfl) rfl rfl rfl (by decide) rfl (Nat.le_of_ble_eq_true rfl) ?_
      show jv_V E 58 [some (.ref 8), some (.int (jv_b v1)), some (.int v2), some (.int (f_X3_outEdge σ v2)), some (.int ((f_X3_lengthOf σ (f_X3_outEdge σ v2)) + (f_X2_ofNode 9 σ (f_X3_headOf σ (f_X3_outEdge σ v2)))))] [.int (f_X3_tailOf σ (f_X3_outEdge σ v2)), .ref 8, .int ((f_X3_lengthOf σ (f_X3_outEdge σ v2)) + (f_X2_ofNode 9 σ (f_X3_headOf σ (f_X3_outEdge σ v2))))] σ
      refine jv_callV (pc' := 61) (o := some (.int (f_X2_ofNode 9 σ (f_X3_tailOf σ (f_X3_outEdge σ v2))))) (σ' := σ) hE dX2_shortenAll_58 rfl lV_X2_50 (ok_X2_ofNode_8 rfl) rfl rfl rfl (by decide) rfl (Nat.le_of_ble_eq_true rfl) ?_
      show jv_V E 61 [some (.ref 8), some (.int (jv_b v1)), some (.int v2), some (.int (f_X3_outEdge σ v2)), some (.int ((f_X3_lengthOf σ (f_X3_outEdge σ v2)) + (f_X2_ofNode 9 σ (f_X3_headOf σ (f_X3_outEdge σ v2)))))] [.int (f_X2_ofNode 9 σ (f_X3_tailOf σ (f_X3_outEdge σ v2))), .int ((f_X3_lengthOf σ (f_X3_outEdge σ v2)) + (f_X2_ofNode 9 σ (f_X3_headOf σ (f_X3_outEdge σ v2))))] σ
      obtain ⟨q3, hq3, h⟩ := jv_lt_eq h
      have kq3 : jv_V E 83 [some (.ref 8), some (.int (jv_b q3.1)), some (.int v2), none, none] [] q3.2 := by
        refine jv_iinc (x := v2) (v := (v2 + (1 : Int32))) (L' := [some (.ref 8), some (.int (jv_b q3.1)), some (.int (v2 + (1 : Int32))), none, none]) (pc' := 86) hE dX2_shortenAll_83 rfl rfl rfl (by decide) rfl rfl ?_
        refine jv_goto (tgt := 4) hE dX2_shortenAll_86 (by decide) ?_
        exact jv_forget [true, true, true, true, true] (ih q3.1 (v2 + (1 : Int32)) q3.2 _ h hk)
      refine jv_icmp_ge (x := ((f_X3_lengthOf σ (f_X3_outEdge σ v2)) + (f_X2_ofNode 9 σ (f_X3_headOf σ (f_X3_outEdge σ v2))))) (y := (f_X2_ofNode 9 σ (f_X3_tailOf σ (f_X3_outEdge σ v2)))) (tgt := 83) (pc' := 64) hE dX2_shortenAll_61 (by decide) rfl (fun c2 => ?_) (fun c2 => ?_)
      · rw [if_pos c2] at hq3
        cases hq3
        exact jv_forget [true, true, true, false, false] kq3
      · rw [if_neg c2] at hq3
        refine jv_aload_n (x := 8) (pc' := 65) hE dX2_shortenAll_64 rfl 0 rfl rfl ?_
        refine jv_get (v := .ref 9) (pc' := 68) hE dX2_shortenAll_65 rfl lF_X2_9 rfl rfl rfl ?_
        refine jv_aload_n (x := 8) (pc' := 69) hE dX2_shortenAll_68 rfl 0 rfl rfl ?_
        refine jv_get (v := .ref 1) (pc' := 72) hE dX2_shortenAll_69 rfl lF_X2_15 rfl rfl rfl ?_
        refine jv_iload_n (x := (f_X3_outEdge σ v2)) (pc' := 73) hE dX2_shortenAll_72 rfl 3 rfl rfl ?_
        refine jv_callV (pc' := 76) (o := some (.int (f_X3_tailOf σ (f_X3_outEdge σ v2)))) (σ' := σ) hE dX2_shortenAll_73 rfl lV_X2_53 (ok_X3_tailOf rfl) rfl rfl rfl (by decide) rfl (Nat.le_of_ble_eq_true rfl) ?_
        show jv_V E 76 [some (.ref 8), some (.int (jv_b v1)), some (.int v2), some (.int (f_X3_outEdge σ v2)), some (.int ((f_X3_lengthOf σ (f_X3_outEdge σ v2)) + (f_X2_ofNode 9 σ (f_X3_headOf σ (f_X3_outEdge σ v2)))))] [.int (f_X3_tailOf σ (f_X3_outEdge σ v2)), .ref 9] σ
        refine jv_iload (x := ((f_X3_lengthOf σ (f_X3_outEdge σ v2)) + (f_X2_ofNode 9 σ (f_X3_headOf σ (f_X3_outEdge σ v2))))) (pc' := 78) hE dX2_shortenAll_76 rfl rfl ?_
        refine jv_callN (pc' := 81) (o := none) (σ' := (jv_wr σ 9 10 (f_X3_tailOf σ (f_X3_outEdge σ v2)) ((f_X3_lengthOf σ (f_X3_outEdge σ v2)) + (f_X2_ofNode 9 σ (f_X3_headOf σ (f_X3_outEdge σ v2)))))) hE dX2_shortenAll_78 rfl lN_X2_26 (ok_X7_put (n := 10) (by decide) rfl rfl) rfl (by decide) rfl (Nat.le_of_ble_eq_true rfl) ?_
        show jv_V E 81 [some (.ref 8), some (.int (jv_b v1)), some (.int v2), some (.int (f_X3_outEdge σ v2)), some (.int ((f_X3_lengthOf σ (f_X3_outEdge σ v2)) + (f_X2_ofNode 9 σ (f_X3_headOf σ (f_X3_outEdge σ v2)))))] [] (jv_wr σ 9 10 (f_X3_tailOf σ (f_X3_outEdge σ v2)) ((f_X3_lengthOf σ (f_X3_outEdge σ v2)) + (f_X2_ofNode 9 σ (f_X3_headOf σ (f_X3_outEdge σ v2)))))
        refine jv_iconst (v := (1 : Int32)) (pc' := 82) hE dX2_shortenAll_81 rfl (by decide) ?_
        refine jv_istore_n (x := (1 : Int32)) (L' := [some (.ref 8), some (.int (1 : Int32)), some (.int v2), some (.int (f_X3_outEdge σ v2)), some (.int ((f_X3_lengthOf σ (f_X3_outEdge σ v2)) + (f_X2_ofNode 9 σ (f_X3_headOf σ (f_X3_outEdge σ v2)))))]) (pc' := 83) hE dX2_shortenAll_82 rfl 1 rfl (by decide) rfl rfl ?_
        cases hq3
        exact jv_forget [true, true, true, false, false] kq3
set_option maxRecDepth 100000 in
set_option maxHeartbeats 4000000 in
theorem ok_X2_shortenAll_8 {G : jv_G} {l : Launch} {σ : jv_S} {r : Bool × jv_S} (h : f_X2_shortenAll 9 σ = some r) : jv_Cn G l 3 M_X2_shortenAll [.ref 8] σ (some (.int (jv_b r.1))) r.2 := by
  refine jv_of (L0 := [some (.ref 8), none, none, none, none]) (by decide +kernel) (Nat.le_of_ble_eq_true rfl) rfl (jv_okZ _) (fun E e1 e2 hE hret => ?_)
  unfold f_X2_shortenAll at h
  refine jv_iconst (v := (0 : Int32)) (pc' := 1) hE dX2_shortenAll_0 rfl (by decide) ?_
  refine jv_istore_n (x := (0 : Int32)) (L' := [some (.ref 8), some (.int (0 : Int32)), none, none, none]) (pc' := 2) hE dX2_shortenAll_1 rfl 1 rfl (by decide) rfl rfl ?_
  refine jv_iconst (v := (0 : Int32)) (pc' := 3) hE dX2_shortenAll_2 rfl (by decide) ?_
  refine jv_istore_n (x := (0 : Int32)) (L' := [some (.ref 8), some (.int (0 : Int32)), some (.int (0 : Int32)), none, none]) (pc' := 4) hE dX2_shortenAll_3 rfl 2 rfl (by decide) rfl rfl ?_
  obtain ⟨q4, hq4, h⟩ := jv_bd_some h
  refine jv_forget [true, true, true, true, true] (lp_X2_shortenAll_8_4 hE jv_fuel false (0 : Int32) σ _ hq4 ?_)
  refine jv_iload_n (x := (jv_b q4.1)) (pc' := 90) hE dX2_shortenAll_89 rfl 1 rfl rfl ?_
  cases h
  exact hret _ _ dX2_shortenAll_90
set_option maxRecDepth 100000 in
set_option maxHeartbeats 4000000 in
theorem lp_X2_shortenAll_12_4 {E : jv_E} (hE : jv_Cx E RX2 cX2_shortenAll 5 3) : ∀ (n : Nat) (v1 : Bool) (v2 : Int32) (σ : jv_S) (q : Bool × Int32 × jv_S), f_X2_shortenAll_lp4 13 n v1 v2 σ = some q → (jv_V E 89 [none, some (.int (jv_b q.1)), none, none, none] [] q.2.2) → jv_V E 4 [some (.ref 12), some (.int (jv_b v1)), some (.int v2), none, none] [] σ := by
  intro n
  induction n with
  | zero =>
    intro v1 v2 σ q h
    rw [f_X2_shortenAll_lp4] at h
    cases h
  | succ n ih =>
    intro v1 v2 σ q h hk
    rw [f_X2_shortenAll_lp4] at h
    refine jv_iload_n (x := v2) (pc' := 5) hE dX2_shortenAll_4 rfl 2 rfl rfl ?_
    refine jv_aload_n (x := 12) (pc' := 6) hE dX2_shortenAll_5 rfl 0 rfl rfl ?_
    refine jv_get (v := .ref 1) (pc' := 9) hE dX2_shortenAll_6 rfl lF_X2_15 rfl rfl rfl ?_
    refine jv_callV (pc' := 12) (o := some (.int (f_X3_usableTotal σ))) (σ' := σ) hE dX2_shortenAll_9 rfl lV_X2_34 (ok_X3_usableTotal rfl) rfl rfl rfl (by decide) rfl (Nat.le_of_ble_eq_true rfl) ?_
    show jv_V E 12 [some (.ref 12), some (.int (jv_b v1)), some (.int v2), none, none] [.int (f_X3_usableTotal σ), .int v2] σ
    refine jv_icmp_ge (x := v2) (y := (f_X3_usableTotal σ)) (tgt := 89) (pc' := 15) hE dX2_shortenAll_12 (by decide) rfl (fun c1 => ?_) (fun c1 => ?_)
    · rw [if_pos c1] at h
      cases h
      exact jv_forget [false, true, false, true, true] hk
    · rw [if_neg c1] at h
      refine jv_aload_n (x := 12) (pc' := 16) hE dX2_shortenAll_15 rfl 0 rfl rfl ?_
      refine jv_get (v := .ref 1) (pc' := 19) hE dX2_shortenAll_16 rfl lF_X2_15 rfl rfl rfl ?_
      refine jv_iload_n (x := v2) (pc' := 20) hE dX2_shortenAll_19 rfl 2 rfl rfl ?_
      refine jv_callV (pc' := 23) (o := some (.int (f_X3_outEdge σ v2))) (σ' := σ) hE dX2_shortenAll_20 rfl lV_X2_40 (ok_X3_outEdge rfl) rfl rfl rfl (by decide) rfl (Nat.le_of_ble_eq_true rfl) ?_
      show jv_V E 23 [some (.ref 12), some (.int (jv_b v1)), some (.int v2), none, none] [.int (f_X3_outEdge σ v2)] σ
      refine jv_istore_n (x := (f_X3_outEdge σ v2)) (L' := [some (.ref 12), some (.int (jv_b v1)), some (.int v2), some (.int (f_X3_outEdge σ v2)), none]) (pc' := 24) hE dX2_shortenAll_23 rfl 3 rfl (by decide) rfl rfl ?_
      refine jv_aload_n (x := 12) (pc' := 25) hE dX2_shortenAll_24 rfl 0 rfl rfl ?_
      refine jv_get (v := .ref 1) (pc' := 28) hE dX2_shortenAll_25 rfl lF_X2_15 rfl rfl rfl ?_
      refine jv_iload_n (x := (f_X3_outEdge σ v2)) (pc' := 29) hE dX2_shortenAll_28 rfl 3 rfl rfl ?_
      refine jv_callV (pc' := 32) (o := some (.int (f_X3_lengthOf σ (f_X3_outEdge σ v2)))) (σ' := σ) hE dX2_shortenAll_29 rfl lV_X2_44 (ok_X3_lengthOf rfl) rfl rfl rfl (by decide) rfl (Nat.le_of_ble_eq_true rfl) ?_
      show jv_V E 32 [some (.ref 12), some (.int (jv_b v1)), some (.int v2), some (.int (f_X3_outEdge σ v2)), none] [.int (f_X3_lengthOf σ (f_X3_outEdge σ v2))] σ
      refine jv_aload_n (x := 12) (pc' := 33) hE dX2_shortenAll_32 rfl 0 rfl rfl ?_
      refine jv_aload_n (x := 12) (pc' := 34) hE dX2_shortenAll_33 rfl 0 rfl rfl ?_
      refine jv_get (v := .ref 1) (pc' := 37) hE dX2_shortenAll_34 rfl lF_X2_15 rfl rfl rfl ?_
      refine jv_iload_n (x := (f_X3_outEdge σ v2)) (pc' := 38) hE dX2_shortenAll_37 rfl 3 rfl rfl ?_
      refine jv_callV (pc' := 41) (o := some (.int (f_X3_headOf σ (f_X3_outEdge σ v2)))) (σ' := σ) hE dX2_shortenAll_38 rfl lV_X2_47 (ok_X3_headOf rfl) rfl rfl rfl (by decide) rfl (Nat.le_of_ble_eq_true rfl) ?_
      show jv_V E 41 [some (.ref 12), some (.int (jv_b v1)), some (.int v2), some (.int (f_X3_outEdge σ v2)), none] [.int (f_X3_headOf σ (f_X3_outEdge σ v2)), .ref 12, .int (f_X3_lengthOf σ (f_X3_outEdge σ v2))] σ
      refine jv_callV (pc' := 44) (o := some (.int (f_X2_ofNode 13 σ (f_X3_headOf σ (f_X3_outEdge σ v2))))) (σ' := σ) hE dX2_shortenAll_41 rfl lV_X2_50 (ok_X2_ofNode_12 rfl) rfl rfl rfl (by decide) rfl (Nat.le_of_ble_eq_true rfl) ?_
      show jv_V E 44 [some (.ref 12), some (.int (jv_b v1)), some (.int v2), some (.int (f_X3_outEdge σ v2)), none] [.int (f_X2_ofNode 13 σ (f_X3_headOf σ (f_X3_outEdge σ v2))), .int (f_X3_lengthOf σ (f_X3_outEdge σ v2))] σ
      refine jv_iadd (x := (f_X3_lengthOf σ (f_X3_outEdge σ v2))) (y := (f_X2_ofNode 13 σ (f_X3_headOf σ (f_X3_outEdge σ v2)))) (pc' := 45) hE dX2_shortenAll_44 rfl ?_
      refine jv_istore (x := ((f_X3_lengthOf σ (f_X3_outEdge σ v2)) + (f_X2_ofNode 13 σ (f_X3_headOf σ (f_X3_outEdge σ v2))))) (L' := [some (.ref 12), some (.int (jv_b v1)), some (.int v2), some (.int (f_X3_outEdge σ v2)), some (.int ((f_X3_lengthOf σ (f_X3_outEdge σ v2)) + (f_X2_ofNode 13 σ (f_X3_headOf σ (f_X3_outEdge σ v2)))))]) (pc' := 47) hE dX2_shortenAll_45 rfl (by decide) rfl rfl ?_
      refine jv_iload (x := ((f_X3_lengthOf σ (f_X3_outEdge σ v2)) + (f_X2_ofNode 13 σ (f_X3_headOf σ (f_X3_outEdge σ v2))))) (pc' := 49) hE dX2_shortenAll_47 rfl rfl ?_
      refine jv_aload_n (x := 12) (pc' := 50) hE dX2_shortenAll_49 rfl 0 rfl rfl ?_
      refine jv_aload_n (x := 12) (pc' := 51) hE dX2_shortenAll_50 rfl 0 rfl rfl ?_
      refine jv_get (v := .ref 1) (pc' := 54) hE dX2_shortenAll_51 rfl lF_X2_15 rfl rfl rfl ?_
      refine jv_iload_n (x := (f_X3_outEdge σ v2)) (pc' := 55) hE dX2_shortenAll_54 rfl 3 rfl rfl ?_
      refine jv_callV (pc' := 58) (o := some (.int (f_X3_tailOf σ (f_X3_outEdge σ v2)))) (σ' := σ) hE dX2_shortenAll_55 rfl lV_X2_53 (ok_X3_tailOf rfl) rfl rfl rfl (by decide) rfl (Nat.le_of_ble_eq_true rfl) ?_
      show jv_V E 58 [some (.ref 12), some (.int (jv_b v1)), some (.int v2), some (.int (f_X3_outEdge σ v2)), some (.int ((f_X3_lengthOf σ (f_X3_outEdge σ v2)) + (f_X2_ofNode 13 σ (f_X3_headOf σ (f_X3_outEdge σ v2)))))] [.int (f_X3_tailOf σ (f_X3_outEdge σ v2)), .ref 12, .int ((f_X3_lengthOf σ (f_X3_outEdge σ v2)) + (f_X2_ofNode 13 σ (f_X3_headOf σ (f_X3_outEdge σ v2))))] σ
      refine jv_callV (pc' := 61) (o := some (.int (f_X2_ofNode 13 σ (f_X3_tailOf σ (f_X3_outEdge σ v2))))) (σ' := σ) hE dX2_shortenAll_58 rfl lV_X2_50 (ok_X2_ofNode_12 rfl) rfl rfl rfl (by decide) rfl (Nat.le_of_ble_eq_true rfl) ?_
      show jv_V E 61 [some (.ref 12), some (.int (jv_b v1)), some (.int v2), some (.int (f_X3_outEdge σ v2)), some (.int ((f_X3_lengthOf σ (f_X3_outEdge σ v2)) + (f_X2_ofNode 13 σ (f_X3_headOf σ (f_X3_outEdge σ v2)))))] [.int (f_X2_ofNode 13 σ (f_X3_tailOf σ (f_X3_outEdge σ v2))), .int ((f_X3_lengthOf σ (f_X3_outEdge σ v2)) + (f_X2_ofNode 13 σ (f_X3_headOf σ (f_X3_outEdge σ v2))))] σ
      obtain ⟨q3, hq3, h⟩ := jv_lt_eq h
      have kq3 : jv_V E 83 [some (.ref 12), some (.int (jv_b q3.1)), some (.int v2), none, none] [] q3.2 := by
        refine jv_iinc (x := v2) (v := (v2 + (1 : Int32))) (L' := [some (.ref 12), some (.int (jv_b q3.1)), some (.int (v2 + (1 : Int32))), none, none]) (pc' := 86) hE dX2_shortenAll_83 rfl rfl rfl (by decide) rfl rfl ?_
        refine jv_goto (tgt := 4) hE dX2_shortenAll_86 (by decide) ?_
        exact jv_forget [true, true, true, true, true] (ih q3.1 (v2 + (1 : Int32)) q3.2 _ h hk)
      refine jv_icmp_ge (x := ((f_X3_lengthOf σ (f_X3_outEdge σ v2)) + (f_X2_ofNode 13 σ (f_X3_headOf σ (f_X3_outEdge σ v2))))) (y := (f_X2_ofNode 13 σ (f_X3_tailOf σ (f_X3_outEdge σ v2)))) (tgt := 83) (pc' := 64) hE dX2_shortenAll_61 (by decide) rfl (fun c2 => ?_) (fun c2 => ?_)
      · rw [if_pos c2] at hq3
        cases hq3
        exact jv_forget [true, true, true, false, false] kq3
      · rw [if_neg c2] at hq3
        refine jv_aload_n (x := 12) (pc' := 65) hE dX2_shortenAll_64 rfl 0 rfl rfl ?_
        refine jv_get (v := .ref 13) (pc' := 68) hE dX2_shortenAll_65 rfl lF_X2_9 rfl rfl rfl ?_
        refine jv_aload_n (x := 12) (pc' := 69) hE dX2_shortenAll_68 rfl 0 rfl rfl ?_
        refine jv_get (v := .ref 1) (pc' := 72) hE dX2_shortenAll_69 rfl lF_X2_15 rfl rfl rfl ?_
        refine jv_iload_n (x := (f_X3_outEdge σ v2)) (pc' := 73) hE dX2_shortenAll_72 rfl 3 rfl rfl ?_
        refine jv_callV (pc' := 76) (o := some (.int (f_X3_tailOf σ (f_X3_outEdge σ v2)))) (σ' := σ) hE dX2_shortenAll_73 rfl lV_X2_53 (ok_X3_tailOf rfl) rfl rfl rfl (by decide) rfl (Nat.le_of_ble_eq_true rfl) ?_
        show jv_V E 76 [some (.ref 12), some (.int (jv_b v1)), some (.int v2), some (.int (f_X3_outEdge σ v2)), some (.int ((f_X3_lengthOf σ (f_X3_outEdge σ v2)) + (f_X2_ofNode 13 σ (f_X3_headOf σ (f_X3_outEdge σ v2)))))] [.int (f_X3_tailOf σ (f_X3_outEdge σ v2)), .ref 13] σ
        refine jv_iload (x := ((f_X3_lengthOf σ (f_X3_outEdge σ v2)) + (f_X2_ofNode 13 σ (f_X3_headOf σ (f_X3_outEdge σ v2))))) (pc' := 78) hE dX2_shortenAll_76 rfl rfl ?_
        refine jv_callN (pc' := 81) (o := none) (σ' := (jv_wr σ 13 10 (f_X3_tailOf σ (f_X3_outEdge σ v2)) ((f_X3_lengthOf σ (f_X3_outEdge σ v2)) + (f_X2_ofNode 13 σ (f_X3_headOf σ (f_X3_outEdge σ v2)))))) hE dX2_shortenAll_78 rfl lN_X2_26 (ok_X7_put (n := 10) (by decide) rfl rfl) rfl (by decide) rfl (Nat.le_of_ble_eq_true rfl) ?_
        show jv_V E 81 [some (.ref 12), some (.int (jv_b v1)), some (.int v2), some (.int (f_X3_outEdge σ v2)), some (.int ((f_X3_lengthOf σ (f_X3_outEdge σ v2)) + (f_X2_ofNode 13 σ (f_X3_headOf σ (f_X3_outEdge σ v2)))))] [] (jv_wr σ 13 10 (f_X3_tailOf σ (f_X3_outEdge σ v2)) ((f_X3_lengthOf σ (f_X3_outEdge σ v2)) + (f_X2_ofNode 13 σ (f_X3_headOf σ (f_X3_outEdge σ v2)))))
        refine jv_iconst (v := (1 : Int32)) (pc' := 82) hE dX2_shortenAll_81 rfl (by decide) ?_
        refine jv_istore_n (x := (1 : Int32)) (L' := [some (.ref 12), some (.int (1 : Int32)), some (.int v2), some (.int (f_X3_outEdge σ v2)), some (.int ((f_X3_lengthOf σ (f_X3_outEdge σ v2)) + (f_X2_ofNode 13 σ (f_X3_headOf σ (f_X3_outEdge σ v2)))))]) (pc' := 83) hE dX2_shortenAll_82 rfl 1 rfl (by decide) rfl rfl ?_
        cases hq3
        exact jv_forget [true, true, true, false, false] kq3
set_option maxRecDepth 100000 in
set_option maxHeartbeats 4000000 in
theorem ok_X2_shortenAll_12 {G : jv_G} {l : Launch} {σ : jv_S} {r : Bool × jv_S} (h : f_X2_shortenAll 13 σ = some r) : jv_Cn G l 3 M_X2_shortenAll [.ref 12] σ (some (.int (jv_b r.1))) r.2 := by
  refine jv_of (L0 := [some (.ref 12), none, none, none, none]) (by decide +kernel) (Nat.le_of_ble_eq_true rfl) rfl (jv_okZ _) (fun E e1 e2 hE hret => ?_)
  unfold f_X2_shortenAll at h
  refine jv_iconst (v := (0 : Int32)) (pc' := 1) hE dX2_shortenAll_0 rfl (by decide) ?_
  refine jv_istore_n (x := (0 : Int32)) (L' := [some (.ref 12), some (.int (0 : Int32)), none, none, none]) (pc' := 2) hE dX2_shortenAll_1 rfl 1 rfl (by decide) rfl rfl ?_
  refine jv_iconst (v := (0 : Int32)) (pc' := 3) hE dX2_shortenAll_2 rfl (by decide) ?_
  refine jv_istore_n (x := (0 : Int32)) (L' := [some (.ref 12), some (.int (0 : Int32)), some (.int (0 : Int32)), none, none]) (pc' := 4) hE dX2_shortenAll_3 rfl 2 rfl (by decide) rfl rfl ?_
  obtain ⟨q4, hq4, h⟩ := jv_bd_some h
  refine jv_forget [true, true, true, true, true] (lp_X2_shortenAll_12_4 hE jv_fuel false (0 : Int32) σ _ hq4 ?_)
  refine jv_iload_n (x := (jv_b q4.1)) (pc' := 90) hE dX2_shortenAll_89 rfl 1 rfl rfl ?_
  cases h
  exact hret _ _ dX2_shortenAll_90
set_option maxRecDepth 100000 in
set_option maxHeartbeats 4000000 in
theorem lp_X2_shortenAll_15_4 {E : jv_E} (hE : jv_Cx E RX2 cX2_shortenAll 5 3) : ∀ (n : Nat) (v1 : Bool) (v2 : Int32) (σ : jv_S) (q : Bool × Int32 × jv_S), f_X2_shortenAll_lp4 16 n v1 v2 σ = some q → (jv_V E 89 [none, some (.int (jv_b q.1)), none, none, none] [] q.2.2) → jv_V E 4 [some (.ref 15), some (.int (jv_b v1)), some (.int v2), none, none] [] σ := by
  intro n
  induction n with
  | zero =>
    intro v1 v2 σ q h
    rw [f_X2_shortenAll_lp4] at h
    cases h
  | succ n ih =>
    intro v1 v2 σ q h hk
    rw [f_X2_shortenAll_lp4] at h
    refine jv_iload_n (x := v2) (pc' := 5) hE dX2_shortenAll_4 rfl 2 rfl rfl ?_
    refine jv_aload_n (x := 15) (pc' := 6) hE dX2_shortenAll_5 rfl 0 rfl rfl ?_
    refine jv_get (v := .ref 1) (pc' := 9) hE dX2_shortenAll_6 rfl lF_X2_15 rfl rfl rfl ?_
    refine jv_callV (pc' := 12) (o := some (.int (f_X3_usableTotal σ))) (σ' := σ) hE dX2_shortenAll_9 rfl lV_X2_34 (ok_X3_usableTotal rfl) rfl rfl rfl (by decide) rfl (Nat.le_of_ble_eq_true rfl) ?_
    show jv_V E 12 [some (.ref 15), some (.int (jv_b v1)), some (.int v2), none, none] [.int (f_X3_usableTotal σ), .int v2] σ
    refine jv_icmp_ge (x := v2) (y := (f_X3_usableTotal σ)) (tgt := 89) (pc' := 15) hE dX2_shortenAll_12 (by decide) rfl (fun c1 => ?_) (fun c1 => ?_)
    · rw [if_pos c1] at h
      cases h
      exact jv_forget [false, true, false, true, true] hk
    · rw [if_neg c1] at h
      refine jv_aload_n (x := 15) (pc' := 16) hE dX2_shortenAll_15 rfl 0 rfl rfl ?_
      refine jv_get (v := .ref 1) (pc' := 19) hE dX2_shortenAll_16 rfl lF_X2_15 rfl rfl rfl ?_
      refine jv_iload_n (x := v2) (pc' := 20) hE dX2_shortenAll_19 rfl 2 rfl rfl ?_
      refine jv_callV (pc' := 23) (o := some (.int (f_X3_outEdge σ v2))) (σ' := σ) hE dX2_shortenAll_20 rfl lV_X2_40 (ok_X3_outEdge rfl) rfl rfl rfl (by decide) rfl (Nat.le_of_ble_eq_true rfl) ?_
      show jv_V E 23 [some (.ref 15), some (.int (jv_b v1)), some (.int v2), none, none] [.int (f_X3_outEdge σ v2)] σ
      refine jv_istore_n (x := (f_X3_outEdge σ v2)) (L' := [some (.ref 15), some (.int (jv_b v1)), some (.int v2), some (.int (f_X3_outEdge σ v2)), none]) (pc' := 24) hE dX2_shortenAll_23 rfl 3 rfl (by decide) rfl rfl ?_
      refine jv_aload_n (x := 15) (pc' := 25) hE dX2_shortenAll_24 rfl 0 rfl rfl ?_
      refine jv_get (v := .ref 1) (pc' := 28) hE dX2_shortenAll_25 rfl lF_X2_15 rfl rfl rfl ?_
      refine jv_iload_n (x := (f_X3_outEdge σ v2)) (pc' := 29) hE dX2_shortenAll_28 rfl 3 rfl rfl ?_
      refine jv_callV (pc' := 32) (o := some (.int (f_X3_lengthOf σ (f_X3_outEdge σ v2)))) (σ' := σ) hE dX2_shortenAll_29 rfl lV_X2_44 (ok_X3_lengthOf rfl) rfl rfl rfl (by decide) rfl (Nat.le_of_ble_eq_true rfl) ?_
      show jv_V E 32 [some (.ref 15), some (.int (jv_b v1)), some (.int v2), some (.int (f_X3_outEdge σ v2)), none] [.int (f_X3_lengthOf σ (f_X3_outEdge σ v2))] σ
      refine jv_aload_n (x := 15) (pc' := 33) hE dX2_shortenAll_32 rfl 0 rfl rfl ?_
      refine jv_aload_n (x := 15) (pc' := 34) hE dX2_shortenAll_33 rfl 0 rfl rfl ?_
      refine jv_get (v := .ref 1) (pc' := 37) hE dX2_shortenAll_34 rfl lF_X2_15 rfl rfl rfl ?_
      refine jv_iload_n (x := (f_X3_outEdge σ v2)) (pc' := 38) hE dX2_shortenAll_37 rfl 3 rfl rfl ?_
      refine jv_callV (pc' := 41) (o := some (.int (f_X3_headOf σ (f_X3_outEdge σ v2)))) (σ' := σ) hE dX2_shortenAll_38 rfl lV_X2_47 (ok_X3_headOf rfl) rfl rfl rfl (by decide) rfl (Nat.le_of_ble_eq_true rfl) ?_
      show jv_V E 41 [some (.ref 15), some (.int (jv_b v1)), some (.int v2), some (.int (f_X3_outEdge σ v2)), none] [.int (f_X3_headOf σ (f_X3_outEdge σ v2)), .ref 15, .int (f_X3_lengthOf σ (f_X3_outEdge σ v2))] σ
      refine jv_callV (pc' := 44) (o := some (.int (f_X2_ofNode 16 σ (f_X3_headOf σ (f_X3_outEdge σ v2))))) (σ' := σ) hE dX2_shortenAll_41 rfl lV_X2_50 (ok_X2_ofNode_15 rfl) rfl rfl rfl (by decide) rfl (Nat.le_of_ble_eq_true rfl) ?_
      show jv_V E 44 [some (.ref 15), some (.int (jv_b v1)), some (.int v2), some (.int (f_X3_outEdge σ v2)), none] [.int (f_X2_ofNode 16 σ (f_X3_headOf σ (f_X3_outEdge σ v2))), .int (f_X3_lengthOf σ (f_X3_outEdge σ v2))] σ
      refine jv_iadd (x := (f_X3_lengthOf σ (f_X3_outEdge σ v2))) (y := (f_X2_ofNode 16 σ (f_X3_headOf σ (f_X3_outEdge σ v2)))) (pc' := 45) hE dX2_shortenAll_44 rfl ?_
      refine jv_istore (x := ((f_X3_lengthOf σ (f_X3_outEdge σ v2)) + (f_X2_ofNode 16 σ (f_X3_headOf σ (f_X3_outEdge σ v2))))) (L' := [some (.ref 15), some (.int (jv_b v1)), some (.int v2), some (.int (f_X3_outEdge σ v2)), some (.int ((f_X3_lengthOf σ (f_X3_outEdge σ v2)) + (f_X2_ofNode 16 σ (f_X3_headOf σ (f_X3_outEdge σ v2)))))]) (pc' := 47) hE dX2_shortenAll_45 rfl (by decide) rfl rfl ?_
      refine jv_iload (x := ((f_X3_lengthOf σ (f_X3_outEdge σ v2)) + (f_X2_ofNode 16 σ (f_X3_headOf σ (f_X3_outEdge σ v2))))) (pc' := 49) hE dX2_shortenAll_47 rfl rfl ?_
      refine jv_aload_n (x := 15) (pc' := 50) hE dX2_shortenAll_49 rfl 0 rfl rfl ?_
      refine jv_aload_n (x := 15) (pc' := 51) hE dX2_shortenAll_50 rfl 0 rfl rfl ?_
      refine jv_get (v := .ref 1) (pc' := 54) hE dX2_shortenAll_51 rfl lF_X2_15 rfl rfl rfl ?_
      refine jv_iload_n (x := (f_X3_outEdge σ v2)) (pc' := 55) hE dX2_shortenAll_54 rfl 3 rfl rfl ?_
      refine jv_callV (pc' := 58) (o := some (.int (f_X3_tailOf σ (f_X3_outEdge σ v2)))) (σ' := σ) hE dX2_shortenAll_55 rfl lV_X2_53 (ok_X3_tailOf rfl) rfl rfl rfl (by decide) rfl (Nat.le_of_ble_eq_true rfl) ?_
      show jv_V E 58 [some (.ref 15), some (.int (jv_b v1)), some (.int v2), some (.int (f_X3_outEdge σ v2)), some (.int ((f_X3_lengthOf σ (f_X3_outEdge σ v2)) + (f_X2_ofNode 16 σ (f_X3_headOf σ (f_X3_outEdge σ v2)))))] [.int (f_X3_tailOf σ (f_X3_outEdge σ v2)), .ref 15, .int ((f_X3_lengthOf σ (f_X3_outEdge σ v2)) + (f_X2_ofNode 16 σ (f_X3_headOf σ (f_X3_outEdge σ v2))))] σ
      refine jv_callV (pc' := 61) (o := some (.int (f_X2_ofNode 16 σ (f_X3_tailOf σ (f_X3_outEdge σ v2))))) (σ' := σ) hE dX2_shortenAll_58 rfl lV_X2_50 (ok_X2_ofNode_15 rfl) rfl rfl rfl (by decide) rfl (Nat.le_of_ble_eq_true rfl) ?_
      show jv_V E 61 [some (.ref 15), some (.int (jv_b v1)), some (.int v2), some (.int (f_X3_outEdge σ v2)), some (.int ((f_X3_lengthOf σ (f_X3_outEdge σ v2)) + (f_X2_ofNode 16 σ (f_X3_headOf σ (f_X3_outEdge σ v2)))))] [.int (f_X2_ofNode 16 σ (f_X3_tailOf σ (f_X3_outEdge σ v2))), .int ((f_X3_lengthOf σ (f_X3_outEdge σ v2)) + (f_X2_ofNode 16 σ (f_X3_headOf σ (f_X3_outEdge σ v2))))] σ
      obtain ⟨q3, hq3, h⟩ := jv_lt_eq h
      have kq3 : jv_V E 83 [some (.ref 15), some (.int (jv_b q3.1)), some (.int v2), none, none] [] q3.2 := by
        refine jv_iinc (x := v2) (v := (v2 + (1 : Int32))) (L' := [some (.ref 15), some (.int (jv_b q3.1)), some (.int (v2 + (1 : Int32))), none, none]) (pc' := 86) hE dX2_shortenAll_83 rfl rfl rfl (by decide) rfl rfl ?_
        refine jv_goto (tgt := 4) hE dX2_shortenAll_86 (by decide) ?_
        exact jv_forget [true, true, true, true, true] (ih q3.1 (v2 + (1 : Int32)) q3.2 _ h hk)
      refine jv_icmp_ge (x := ((f_X3_lengthOf σ (f_X3_outEdge σ v2)) + (f_X2_ofNode 16 σ (f_X3_headOf σ (f_X3_outEdge σ v2))))) (y := (f_X2_ofNode 16 σ (f_X3_tailOf σ (f_X3_outEdge σ v2)))) (tgt := 83) (pc' := 64) hE dX2_shortenAll_61 (by decide) rfl (fun c2 => ?_) (fun c2 => ?_)
      · rw [if_pos c2] at hq3
        cases hq3
        exact jv_forget [true, true, true, false, false] kq3
      · rw [if_neg c2] at hq3
        refine jv_aload_n (x := 15) (pc' := 65) hE dX2_shortenAll_64 rfl 0 rfl rfl ?_
        refine jv_get (v := .ref 16) (pc' := 68) hE dX2_shortenAll_65 rfl lF_X2_9 rfl rfl rfl ?_
        refine jv_aload_n (x := 15) (pc' := 69) hE dX2_shortenAll_68 rfl 0 rfl rfl ?_
        refine jv_get (v := .ref 1) (pc' := 72) hE dX2_shortenAll_69 rfl lF_X2_15 rfl rfl rfl ?_
        refine jv_iload_n (x := (f_X3_outEdge σ v2)) (pc' := 73) hE dX2_shortenAll_72 rfl 3 rfl rfl ?_
        refine jv_callV (pc' := 76) (o := some (.int (f_X3_tailOf σ (f_X3_outEdge σ v2)))) (σ' := σ) hE dX2_shortenAll_73 rfl lV_X2_53 (ok_X3_tailOf rfl) rfl rfl rfl (by decide) rfl (Nat.le_of_ble_eq_true rfl) ?_
        show jv_V E 76 [some (.ref 15), some (.int (jv_b v1)), some (.int v2), some (.int (f_X3_outEdge σ v2)), some (.int ((f_X3_lengthOf σ (f_X3_outEdge σ v2)) + (f_X2_ofNode 16 σ (f_X3_headOf σ (f_X3_outEdge σ v2)))))] [.int (f_X3_tailOf σ (f_X3_outEdge σ v2)), .ref 16] σ
        refine jv_iload (x := ((f_X3_lengthOf σ (f_X3_outEdge σ v2)) + (f_X2_ofNode 16 σ (f_X3_headOf σ (f_X3_outEdge σ v2))))) (pc' := 78) hE dX2_shortenAll_76 rfl rfl ?_
        refine jv_callN (pc' := 81) (o := none) (σ' := (jv_wr σ 16 10 (f_X3_tailOf σ (f_X3_outEdge σ v2)) ((f_X3_lengthOf σ (f_X3_outEdge σ v2)) + (f_X2_ofNode 16 σ (f_X3_headOf σ (f_X3_outEdge σ v2)))))) hE dX2_shortenAll_78 rfl lN_X2_26 (ok_X7_put (n := 10) (by decide) rfl rfl) rfl (by decide) rfl (Nat.le_of_ble_eq_true rfl) ?_
        show jv_V E 81 [some (.ref 15), some (.int (jv_b v1)), some (.int v2), some (.int (f_X3_outEdge σ v2)), some (.int ((f_X3_lengthOf σ (f_X3_outEdge σ v2)) + (f_X2_ofNode 16 σ (f_X3_headOf σ (f_X3_outEdge σ v2)))))] [] (jv_wr σ 16 10 (f_X3_tailOf σ (f_X3_outEdge σ v2)) ((f_X3_lengthOf σ (f_X3_outEdge σ v2)) + (f_X2_ofNode 16 σ (f_X3_headOf σ (f_X3_outEdge σ v2)))))
        refine jv_iconst (v := (1 : Int32)) (pc' := 82) hE dX2_shortenAll_81 rfl (by decide) ?_
        refine jv_istore_n (x := (1 : Int32)) (L' := [some (.ref 15), some (.int (1 : Int32)), some (.int v2), some (.int (f_X3_outEdge σ v2)), some (.int ((f_X3_lengthOf σ (f_X3_outEdge σ v2)) + (f_X2_ofNode 16 σ (f_X3_headOf σ (f_X3_outEdge σ v2)))))]) (pc' := 83) hE dX2_shortenAll_82 rfl 1 rfl (by decide) rfl rfl ?_
        cases hq3
        exact jv_forget [true, true, true, false, false] kq3
set_option maxRecDepth 100000 in
set_option maxHeartbeats 4000000 in
theorem ok_X2_shortenAll_15 {G : jv_G} {l : Launch} {σ : jv_S} {r : Bool × jv_S} (h : f_X2_shortenAll 16 σ = some r) : jv_Cn G l 3 M_X2_shortenAll [.ref 15] σ (some (.int (jv_b r.1))) r.2 := by
  refine jv_of (L0 := [some (.ref 15), none, none, none, none]) (by decide +kernel) (Nat.le_of_ble_eq_true rfl) rfl (jv_okZ _) (fun E e1 e2 hE hret => ?_)
  unfold f_X2_shortenAll at h
  refine jv_iconst (v := (0 : Int32)) (pc' := 1) hE dX2_shortenAll_0 rfl (by decide) ?_
  refine jv_istore_n (x := (0 : Int32)) (L' := [some (.ref 15), some (.int (0 : Int32)), none, none, none]) (pc' := 2) hE dX2_shortenAll_1 rfl 1 rfl (by decide) rfl rfl ?_
  refine jv_iconst (v := (0 : Int32)) (pc' := 3) hE dX2_shortenAll_2 rfl (by decide) ?_
  refine jv_istore_n (x := (0 : Int32)) (L' := [some (.ref 15), some (.int (0 : Int32)), some (.int (0 : Int32)), none, none]) (pc' := 4) hE dX2_shortenAll_3 rfl 2 rfl (by decide) rfl rfl ?_
  obtain ⟨q4, hq4, h⟩ := jv_bd_some h
  refine jv_forget [true, true, true, true, true] (lp_X2_shortenAll_15_4 hE jv_fuel false (0 : Int32) σ _ hq4 ?_)
  refine jv_iload_n (x := (jv_b q4.1)) (pc' := 90) hE dX2_shortenAll_89 rfl 1 rfl rfl ?_
  cases h
  exact hret _ _ dX2_shortenAll_90
noncomputable def f_X2_measureTo_lp22 (a : Nat) : Nat → Bool → Int32 → jv_S → Option (Bool × Int32 × jv_S)
  | 0, _, _, _ => none
  | n + 1, v2, v3, σ => if (10 : Int32) ≤ v3 then (some (v2, v3, σ)) else (if v2 = true then (jv_bd (f_X2_shortenAll a σ) (fun q3 => f_X2_measureTo_lp22 a n q3.1 (v3 + (1 : Int32)) q3.2)) else (some (v2, v3, σ)))
noncomputable def f_X2_measureTo (a : Nat) (σ : jv_S) (p1 : Int32) : Option (jv_S) := jv_bd (f_X2_measureTo_lp22 a jv_fuel true (0 : Int32) (jv_wr (jv_fl σ a 10 (1000000000 : Int32)) a 10 p1 (0 : Int32))) (fun q4 => some q4.2.2)
set_option maxRecDepth 100000 in
set_option maxHeartbeats 4000000 in
theorem lp_X2_measureTo_8_22 {E : jv_E} (hE : jv_Cx E RX2 cX2_measureTo 4 4) : ∀ (n : Nat) (v2 : Bool) (v3 : Int32) (σ : jv_S) (q : Bool × Int32 × jv_S), f_X2_measureTo_lp22 9 n v2 v3 σ = some q → (jv_V E 43 [none, none, none, none] [] q.2.2) → jv_V E 22 [some (.ref 8), none, some (.int (jv_b v2)), some (.int v3)] [] σ := by
  intro n
  induction n with
  | zero =>
    intro v2 v3 σ q h
    rw [f_X2_measureTo_lp22] at h
    cases h
  | succ n ih =>
    intro v2 v3 σ q h hk
    rw [f_X2_measureTo_lp22] at h
    refine jv_iload_n (x := v3) (pc' := 23) hE dX2_measureTo_22 rfl 3 rfl rfl ?_
    refine jv_bipush (v := (10 : Int32)) (pc' := 25) hE dX2_measureTo_23 rfl (by decide) ?_
    refine jv_icmp_ge (x := v3) (y := (10 : Int32)) (tgt := 43) (pc' := 28) hE dX2_measureTo_25 (by decide) rfl (fun c1 => ?_) (fun c1 => ?_)
    · rw [if_pos c1] at h
      cases h
      exact jv_forget [false, true, false, false] hk
    · rw [if_neg c1] at h
      refine jv_iload_n (x := (jv_b v2)) (pc' := 29) hE dX2_measureTo_28 rfl 2 rfl rfl ?_
      refine jv_if_eq (x := (jv_b v2)) (tgt := 43) (pc' := 32) hE dX2_measureTo_29 (by decide) rfl (fun c2 => ?_) (fun c2 => ?_)
      · have c2 := jv_b0 c2
        rw [if_neg c2] at h
        cases h
        exact jv_forget [false, true, false, false] hk
      · have c2 := jv_b1 c2
        rw [if_pos c2] at h
        refine jv_aload_n (x := 8) (pc' := 33) hE dX2_measureTo_32 rfl 0 rfl rfl ?_
        obtain ⟨q3, hq3, h⟩ := jv_bd_some h
        refine jv_callV (pc' := 36) (o := some (.int (jv_b q3.1))) (σ' := q3.2) hE dX2_measureTo_33 rfl lV_X2_30 (ok_X2_shortenAll_8 hq3) rfl rfl rfl (by decide) rfl (Nat.le_of_ble_eq_true rfl) ?_
        show jv_V E 36 [some (.ref 8), none, some (.int (jv_b v2)), some (.int v3)] [.int (jv_b q3.1)] q3.2
        refine jv_istore_n (x := (jv_b q3.1)) (L' := [some (.ref 8), none, some (.int (jv_b q3.1)), some (.int v3)]) (pc' := 37) hE dX2_measureTo_36 rfl 2 rfl (by decide) rfl rfl ?_
        refine jv_iinc (x := v3) (v := (v3 + (1 : Int32))) (L' := [some (.ref 8), none, some (.int (jv_b q3.1)), some (.int (v3 + (1 : Int32)))]) (pc' := 40) hE dX2_measureTo_37 rfl rfl rfl (by decide) rfl rfl ?_
        refine jv_goto (tgt := 22) hE dX2_measureTo_40 (by decide) ?_
        exact jv_forget [true, true, true, true] (ih q3.1 (v3 + (1 : Int32)) q3.2 _ h hk)
set_option maxRecDepth 100000 in
set_option maxHeartbeats 4000000 in
theorem ok_X2_measureTo_8 {G : jv_G} {l : Launch} {σ : jv_S} {p1 : Int32} {r : jv_S} (h : f_X2_measureTo 9 σ p1 = some r) : jv_Cn G l 4 M_X2_measureTo [.ref 8, .int p1] σ (none) r := by
  refine jv_of (L0 := [some (.ref 8), some (.int p1), none, none]) (by decide +kernel) (Nat.le_of_ble_eq_true rfl) rfl jv_okV (fun E e1 e2 hE hret => ?_)
  unfold f_X2_measureTo at h
  refine jv_aload_n (x := 8) (pc' := 1) hE dX2_measureTo_0 rfl 0 rfl rfl ?_
  refine jv_get (v := .ref 9) (pc' := 4) hE dX2_measureTo_1 rfl lF_X2_9 rfl rfl rfl ?_
  refine jv_ldc (v := (1000000000 : Int32)) (pc' := 6) hE dX2_measureTo_4 rfl lC_X2_19 ?_
  refine jv_callS (pc' := 9) (o := none) (σ' := (jv_fl σ 9 10 (1000000000 : Int32))) hE dX2_measureTo_6 rfl lS_X2_20 (ok_J7_fill_53178 (n := 10) (by decide) rfl rfl) rfl (by decide) rfl (Nat.le_of_ble_eq_true rfl) ?_
  show jv_V E 9 [some (.ref 8), some (.int p1), none, none] [] (jv_fl σ 9 10 (1000000000 : Int32))
  refine jv_aload_n (x := 8) (pc' := 10) hE dX2_measureTo_9 rfl 0 rfl rfl ?_
  refine jv_get (v := .ref 9) (pc' := 13) hE dX2_measureTo_10 rfl lF_X2_9 rfl rfl rfl ?_
  refine jv_iload_n (x := p1) (pc' := 14) hE dX2_measureTo_13 rfl 1 rfl rfl ?_
  refine jv_iconst (v := (0 : Int32)) (pc' := 15) hE dX2_measureTo_14 rfl (by decide) ?_
  refine jv_callN (pc' := 18) (o := none) (σ' := (jv_wr (jv_fl σ 9 10 (1000000000 : Int32)) 9 10 p1 (0 : Int32))) hE dX2_measureTo_15 rfl lN_X2_26 (ok_X7_put (n := 10) (by decide) rfl rfl) rfl (by decide) rfl (Nat.le_of_ble_eq_true rfl) ?_
  show jv_V E 18 [some (.ref 8), some (.int p1), none, none] [] (jv_wr (jv_fl σ 9 10 (1000000000 : Int32)) 9 10 p1 (0 : Int32))
  refine jv_iconst (v := (1 : Int32)) (pc' := 19) hE dX2_measureTo_18 rfl (by decide) ?_
  refine jv_istore_n (x := (1 : Int32)) (L' := [some (.ref 8), some (.int p1), some (.int (1 : Int32)), none]) (pc' := 20) hE dX2_measureTo_19 rfl 2 rfl (by decide) rfl rfl ?_
  refine jv_iconst (v := (0 : Int32)) (pc' := 21) hE dX2_measureTo_20 rfl (by decide) ?_
  refine jv_istore_n (x := (0 : Int32)) (L' := [some (.ref 8), some (.int p1), some (.int (1 : Int32)), some (.int (0 : Int32))]) (pc' := 22) hE dX2_measureTo_21 rfl 3 rfl (by decide) rfl rfl ?_
  obtain ⟨q4, hq4, h⟩ := jv_bd_some h
  refine jv_forget [true, false, true, true] (lp_X2_measureTo_8_22 hE jv_fuel true (0 : Int32) (jv_wr (jv_fl σ 9 10 (1000000000 : Int32)) 9 10 p1 (0 : Int32)) _ hq4 ?_)
  cases h
  exact hret _ _ dX2_measureTo_43
set_option maxRecDepth 100000 in
set_option maxHeartbeats 4000000 in
theorem lp_X2_measureTo_12_22 {E : jv_E} (hE : jv_Cx E RX2 cX2_measureTo 4 4) : ∀ (n : Nat) (v2 : Bool) (v3 : Int32) (σ : jv_S) (q : Bool × Int32 × jv_S), f_X2_measureTo_lp22 13 n v2 v3 σ = some q → (jv_V E 43 [none, none, none, none] [] q.2.2) → jv_V E 22 [some (.ref 12), none, some (.int (jv_b v2)), some (.int v3)] [] σ := by
  intro n
  induction n with
  | zero =>
    intro v2 v3 σ q h
    rw [f_X2_measureTo_lp22] at h
    cases h
  | succ n ih =>
    intro v2 v3 σ q h hk
    rw [f_X2_measureTo_lp22] at h
    refine jv_iload_n (x := v3) (pc' := 23) hE dX2_measureTo_22 rfl 3 rfl rfl ?_
    refine jv_bipush (v := (10 : Int32)) (pc' := 25) hE dX2_measureTo_23 rfl (by decide) ?_
    refine jv_icmp_ge (x := v3) (y := (10 : Int32)) (tgt := 43) (pc' := 28) hE dX2_measureTo_25 (by decide) rfl (fun c1 => ?_) (fun c1 => ?_)
    · rw [if_pos c1] at h
      cases h
      exact jv_forget [false, true, false, false] hk
    · rw [if_neg c1] at h
      refine jv_iload_n (x := (jv_b v2)) (pc' := 29) hE dX2_measureTo_28 rfl 2 rfl rfl ?_
      refine jv_if_eq (x := (jv_b v2)) (tgt := 43) (pc' := 32) hE dX2_measureTo_29 (by decide) rfl (fun c2 => ?_) (fun c2 => ?_)
      · have c2 := jv_b0 c2
        rw [if_neg c2] at h
        cases h
        exact jv_forget [false, true, false, false] hk
      · have c2 := jv_b1 c2
        rw [if_pos c2] at h
        refine jv_aload_n (x := 12) (pc' := 33) hE dX2_measureTo_32 rfl 0 rfl rfl ?_
        obtain ⟨q3, hq3, h⟩ := jv_bd_some h
        refine jv_callV (pc' := 36) (o := some (.int (jv_b q3.1))) (σ' := q3.2) hE dX2_measureTo_33 rfl lV_X2_30 (ok_X2_shortenAll_12 hq3) rfl rfl rfl (by decide) rfl (Nat.le_of_ble_eq_true rfl) ?_
        show jv_V E 36 [some (.ref 12), none, some (.int (jv_b v2)), some (.int v3)] [.int (jv_b q3.1)] q3.2
        refine jv_istore_n (x := (jv_b q3.1)) (L' := [some (.ref 12), none, some (.int (jv_b q3.1)), some (.int v3)]) (pc' := 37) hE dX2_measureTo_36 rfl 2 rfl (by decide) rfl rfl ?_
        refine jv_iinc (x := v3) (v := (v3 + (1 : Int32))) (L' := [some (.ref 12), none, some (.int (jv_b q3.1)), some (.int (v3 + (1 : Int32)))]) (pc' := 40) hE dX2_measureTo_37 rfl rfl rfl (by decide) rfl rfl ?_
        refine jv_goto (tgt := 22) hE dX2_measureTo_40 (by decide) ?_
        exact jv_forget [true, true, true, true] (ih q3.1 (v3 + (1 : Int32)) q3.2 _ h hk)
set_option maxRecDepth 100000 in
set_option maxHeartbeats 4000000 in
theorem ok_X2_measureTo_12 {G : jv_G} {l : Launch} {σ : jv_S} {p1 : Int32} {r : jv_S} (h : f_X2_measureTo 13 σ p1 = some r) : jv_Cn G l 4 M_X2_measureTo [.ref 12, .int p1] σ (none) r := by
  refine jv_of (L0 := [some (.ref 12), some (.int p1), none, none]) (by decide +kernel) (Nat.le_of_ble_eq_true rfl) rfl jv_okV (fun E e1 e2 hE hret => ?_)
  unfold f_X2_measureTo at h
  refine jv_aload_n (x := 12) (pc' := 1) hE dX2_measureTo_0 rfl 0 rfl rfl ?_
  refine jv_get (v := .ref 13) (pc' := 4) hE dX2_measureTo_1 rfl lF_X2_9 rfl rfl rfl ?_
  refine jv_ldc (v := (1000000000 : Int32)) (pc' := 6) hE dX2_measureTo_4 rfl lC_X2_19 ?_
  refine jv_callS (pc' := 9) (o := none) (σ' := (jv_fl σ 13 10 (1000000000 : Int32))) hE dX2_measureTo_6 rfl lS_X2_20 (ok_J7_fill_53178 (n := 10) (by decide) rfl rfl) rfl (by decide) rfl (Nat.le_of_ble_eq_true rfl) ?_
  show jv_V E 9 [some (.ref 12), some (.int p1), none, none] [] (jv_fl σ 13 10 (1000000000 : Int32))
  refine jv_aload_n (x := 12) (pc' := 10) hE dX2_measureTo_9 rfl 0 rfl rfl ?_
  refine jv_get (v := .ref 13) (pc' := 13) hE dX2_measureTo_10 rfl lF_X2_9 rfl rfl rfl ?_
  refine jv_iload_n (x := p1) (pc' := 14) hE dX2_measureTo_13 rfl 1 rfl rfl ?_
  refine jv_iconst (v := (0 : Int32)) (pc' := 15) hE dX2_measureTo_14 rfl (by decide) ?_
  refine jv_callN (pc' := 18) (o := none) (σ' := (jv_wr (jv_fl σ 13 10 (1000000000 : Int32)) 13 10 p1 (0 : Int32))) hE dX2_measureTo_15 rfl lN_X2_26 (ok_X7_put (n := 10) (by decide) rfl rfl) rfl (by decide) rfl (Nat.le_of_ble_eq_true rfl) ?_
  show jv_V E 18 [some (.ref 12), some (.int p1), none, none] [] (jv_wr (jv_fl σ 13 10 (1000000000 : Int32)) 13 10 p1 (0 : Int32))
  refine jv_iconst (v := (1 : Int32)) (pc' := 19) hE dX2_measureTo_18 rfl (by decide) ?_
  refine jv_istore_n (x := (1 : Int32)) (L' := [some (.ref 12), some (.int p1), some (.int (1 : Int32)), none]) (pc' := 20) hE dX2_measureTo_19 rfl 2 rfl (by decide) rfl rfl ?_
  refine jv_iconst (v := (0 : Int32)) (pc' := 21) hE dX2_measureTo_20 rfl (by decide) ?_
  refine jv_istore_n (x := (0 : Int32)) (L' := [some (.ref 12), some (.int p1), some (.int (1 : Int32)), some (.int (0 : Int32))]) (pc' := 22) hE dX2_measureTo_21 rfl 3 rfl (by decide) rfl rfl ?_
  obtain ⟨q4, hq4, h⟩ := jv_bd_some h
  refine jv_forget [true, false, true, true] (lp_X2_measureTo_12_22 hE jv_fuel true (0 : Int32) (jv_wr (jv_fl σ 13 10 (1000000000 : Int32)) 13 10 p1 (0 : Int32)) _ hq4 ?_)
  cases h
  exact hret _ _ dX2_measureTo_43
set_option maxRecDepth 100000 in
set_option maxHeartbeats 4000000 in
theorem lp_X2_measureTo_15_22 {E : jv_E} (hE : jv_Cx E RX2 cX2_measureTo 4 4) : ∀ (n : Nat) (v2 : Bool) (v3 : Int32) (σ : jv_S) (q : Bool × Int32 × jv_S), f_X2_measureTo_lp22 16 n v2 v3 σ = some q → (jv_V E 43 [none, none, none, none] [] q.2.2) → jv_V E 22 [some (.ref 15), none, some (.int (jv_b v2)), some (.int v3)] [] σ := by
  intro n
  induction n with
  | zero =>
    intro v2 v3 σ q h
    rw [f_X2_measureTo_lp22] at h
    cases h
  | succ n ih =>
    intro v2 v3 σ q h hk
    rw [f_X2_measureTo_lp22] at h
    refine jv_iload_n (x := v3) (pc' := 23) hE dX2_measureTo_22 rfl 3 rfl rfl ?_
    refine jv_bipush (v := (10 : Int32)) (pc' := 25) hE dX2_measureTo_23 rfl (by decide) ?_
    refine jv_icmp_ge (x := v3) (y := (10 : Int32)) (tgt := 43) (pc' := 28) hE dX2_measureTo_25 (by decide) rfl (fun c1 => ?_) (fun c1 => ?_)
    · rw [if_pos c1] at h
      cases h
      exact jv_forget [false, true, false, false] hk
    · rw [if_neg c1] at h
      refine jv_iload_n (x := (jv_b v2)) (pc' := 29) hE dX2_measureTo_28 rfl 2 rfl rfl ?_
      refine jv_if_eq (x := (jv_b v2)) (tgt := 43) (pc' := 32) hE dX2_measureTo_29 (by decide) rfl (fun c2 => ?_) (fun c2 => ?_)
      · have c2 := jv_b0 c2
        rw [if_neg c2] at h
        cases h
        exact jv_forget [false, true, false, false] hk
      · have c2 := jv_b1 c2
        rw [if_pos c2] at h
        refine jv_aload_n (x := 15) (pc' := 33) hE dX2_measureTo_32 rfl 0 rfl rfl ?_
        obtain ⟨q3, hq3, h⟩ := jv_bd_some h
        refine jv_callV (pc' := 36) (o := some (.int (jv_b q3.1))) (σ' := q3.2) hE dX2_measureTo_33 rfl lV_X2_30 (ok_X2_shortenAll_15 hq3) rfl rfl rfl (by decide) rfl (Nat.le_of_ble_eq_true rfl) ?_
        show jv_V E 36 [some (.ref 15), none, some (.int (jv_b v2)), some (.int v3)] [.int (jv_b q3.1)] q3.2
        refine jv_istore_n (x := (jv_b q3.1)) (L' := [some (.ref 15), none, some (.int (jv_b q3.1)), some (.int v3)]) (pc' := 37) hE dX2_measureTo_36 rfl 2 rfl (by decide) rfl rfl ?_
        refine jv_iinc (x := v3) (v := (v3 + (1 : Int32))) (L' := [some (.ref 15), none, some (.int (jv_b q3.1)), some (.int (v3 + (1 : Int32)))]) (pc' := 40) hE dX2_measureTo_37 rfl rfl rfl (by decide) rfl rfl ?_
        refine jv_goto (tgt := 22) hE dX2_measureTo_40 (by decide) ?_
        exact jv_forget [true, true, true, true] (ih q3.1 (v3 + (1 : Int32)) q3.2 _ h hk)
set_option maxRecDepth 100000 in
set_option maxHeartbeats 4000000 in
theorem ok_X2_measureTo_15 {G : jv_G} {l : Launch} {σ : jv_S} {p1 : Int32} {r : jv_S} (h : f_X2_measureTo 16 σ p1 = some r) : jv_Cn G l 4 M_X2_measureTo [.ref 15, .int p1] σ (none) r := by
  refine jv_of (L0 := [some (.ref 15), some (.int p1), none, none]) (by decide +kernel) (Nat.le_of_ble_eq_true rfl) rfl jv_okV (fun E e1 e2 hE hret => ?_)
  unfold f_X2_measureTo at h
  refine jv_aload_n (x := 15) (pc' := 1) hE dX2_measureTo_0 rfl 0 rfl rfl ?_
  refine jv_get (v := .ref 16) (pc' := 4) hE dX2_measureTo_1 rfl lF_X2_9 rfl rfl rfl ?_
  refine jv_ldc (v := (1000000000 : Int32)) (pc' := 6) hE dX2_measureTo_4 rfl lC_X2_19 ?_
  refine jv_callS (pc' := 9) (o := none) (σ' := (jv_fl σ 16 10 (1000000000 : Int32))) hE dX2_measureTo_6 rfl lS_X2_20 (ok_J7_fill_53178 (n := 10) (by decide) rfl rfl) rfl (by decide) rfl (Nat.le_of_ble_eq_true rfl) ?_
  show jv_V E 9 [some (.ref 15), some (.int p1), none, none] [] (jv_fl σ 16 10 (1000000000 : Int32))
  refine jv_aload_n (x := 15) (pc' := 10) hE dX2_measureTo_9 rfl 0 rfl rfl ?_
  refine jv_get (v := .ref 16) (pc' := 13) hE dX2_measureTo_10 rfl lF_X2_9 rfl rfl rfl ?_
  refine jv_iload_n (x := p1) (pc' := 14) hE dX2_measureTo_13 rfl 1 rfl rfl ?_
  refine jv_iconst (v := (0 : Int32)) (pc' := 15) hE dX2_measureTo_14 rfl (by decide) ?_
  refine jv_callN (pc' := 18) (o := none) (σ' := (jv_wr (jv_fl σ 16 10 (1000000000 : Int32)) 16 10 p1 (0 : Int32))) hE dX2_measureTo_15 rfl lN_X2_26 (ok_X7_put (n := 10) (by decide) rfl rfl) rfl (by decide) rfl (Nat.le_of_ble_eq_true rfl) ?_
  show jv_V E 18 [some (.ref 15), some (.int p1), none, none] [] (jv_wr (jv_fl σ 16 10 (1000000000 : Int32)) 16 10 p1 (0 : Int32))
  refine jv_iconst (v := (1 : Int32)) (pc' := 19) hE dX2_measureTo_18 rfl (by decide) ?_
  refine jv_istore_n (x := (1 : Int32)) (L' := [some (.ref 15), some (.int p1), some (.int (1 : Int32)), none]) (pc' := 20) hE dX2_measureTo_19 rfl 2 rfl (by decide) rfl rfl ?_
  refine jv_iconst (v := (0 : Int32)) (pc' := 21) hE dX2_measureTo_20 rfl (by decide) ?_
  refine jv_istore_n (x := (0 : Int32)) (L' := [some (.ref 15), some (.int p1), some (.int (1 : Int32)), some (.int (0 : Int32))]) (pc' := 22) hE dX2_measureTo_21 rfl 3 rfl (by decide) rfl rfl ?_
  obtain ⟨q4, hq4, h⟩ := jv_bd_some h
  refine jv_forget [true, false, true, true] (lp_X2_measureTo_15_22 hE jv_fuel true (0 : Int32) (jv_wr (jv_fl σ 16 10 (1000000000 : Int32)) 16 10 p1 (0 : Int32)) _ hq4 ?_)
  cases h
  exact hret _ _ dX2_measureTo_43
