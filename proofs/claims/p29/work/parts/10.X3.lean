noncomputable def f_X7_hasBit (σ : jv_S) (p1 : Int32) (p2 : Int32) : Bool := jv_lt (if (((p1.toUInt32 >>> (p2.toUInt32 &&& Int32.toUInt32 31)).toInt32) &&& (1 : Int32)) = 0 then (false) else (true)) (fun q2 => q2)
set_option maxRecDepth 100000 in
set_option maxHeartbeats 4000000 in
theorem ok_X7_hasBit {G : jv_G} {l : Launch} {σ : jv_S} {p1 : Int32} {p2 : Int32} {r : Bool} (h : f_X7_hasBit σ p1 p2 = r) : jv_Cn G l 1 M_X7_hasBit [.int p1, .int p2] σ (some (.int (jv_b r))) σ := by
  refine jv_of (L0 := [some (.int p1), some (.int p2)]) (by decide +kernel) (Nat.le_of_ble_eq_true rfl) rfl (jv_okZ _) (fun E e1 e2 hE hret => ?_)
  unfold f_X7_hasBit at h
  refine jv_iload_n (x := p1) (pc' := 1) hE dX7_hasBit_0 rfl 0 rfl rfl ?_
  refine jv_iload_n (x := p2) (pc' := 2) hE dX7_hasBit_1 rfl 1 rfl rfl ?_
  refine jv_iushr (x := p1) (y := p2) (pc' := 3) hE dX7_hasBit_2 rfl ?_
  refine jv_iconst (v := (1 : Int32)) (pc' := 4) hE dX7_hasBit_3 rfl (by decide) ?_
  refine jv_iand (x := ((p1.toUInt32 >>> (p2.toUInt32 &&& Int32.toUInt32 31)).toInt32)) (y := (1 : Int32)) (pc' := 5) hE dX7_hasBit_4 rfl ?_
  obtain ⟨q2, hq2, h⟩ := jv_lt_eq h
  have kq2 : jv_V E 13 [none, none] [.int (jv_b q2)] σ := by
    cases h
    exact hret _ _ dX7_hasBit_13
  refine jv_if_eq (x := (((p1.toUInt32 >>> (p2.toUInt32 &&& Int32.toUInt32 31)).toInt32) &&& (1 : Int32))) (tgt := 12) (pc' := 8) hE dX7_hasBit_5 (by decide) rfl (fun c1 => ?_) (fun c1 => ?_)
  · rw [if_pos c1] at hq2
    refine jv_iconst (v := (0 : Int32)) (pc' := 13) hE dX7_hasBit_12 rfl (by decide) ?_
    cases hq2
    exact jv_forget [false, false] kq2
  · rw [if_neg c1] at hq2
    refine jv_iconst (v := (1 : Int32)) (pc' := 9) hE dX7_hasBit_8 rfl (by decide) ?_
    refine jv_goto (tgt := 13) hE dX7_hasBit_9 (by decide) ?_
    cases hq2
    exact jv_forget [false, false] kq2
noncomputable def f_X3_nodeTotal (σ : jv_S) : Int32 := (σ.1 1 6)
set_option maxRecDepth 100000 in
set_option maxHeartbeats 4000000 in
theorem ok_X3_nodeTotal {G : jv_G} {l : Launch} {σ : jv_S} {r : Int32} (h : f_X3_nodeTotal σ = r) : jv_Cn G l 1 M_X3_nodeTotal [.ref 1] σ (some (.int r)) σ := by
  refine jv_of (L0 := [some (.ref 1)]) (by decide +kernel) (Nat.le_of_ble_eq_true rfl) rfl (jv_okI _) (fun E e1 e2 hE hret => ?_)
  unfold f_X3_nodeTotal at h
  refine jv_aload_n (x := 1) (pc' := 1) hE dX3_nodeTotal_0 rfl 0 rfl rfl ?_
  refine jv_get (v := .int (σ.1 1 6)) (pc' := 4) hE dX3_nodeTotal_1 rfl lF_X3_30 rfl rfl rfl ?_
  cases h
  exact hret _ _ dX3_nodeTotal_4
noncomputable def f_X3_tailOf (σ : jv_S) (p1 : Int32) : Int32 := (jv_rd (σ.1 2) 24 0 p1)
set_option maxRecDepth 100000 in
set_option maxHeartbeats 4000000 in
theorem ok_X3_tailOf {G : jv_G} {l : Launch} {σ : jv_S} {p1 : Int32} {r : Int32} (h : f_X3_tailOf σ p1 = r) : jv_Cn G l 2 M_X3_tailOf [.ref 1, .int p1] σ (some (.int r)) σ := by
  refine jv_of (L0 := [some (.ref 1), some (.int p1)]) (by decide +kernel) (Nat.le_of_ble_eq_true rfl) rfl (jv_okI _) (fun E e1 e2 hE hret => ?_)
  unfold f_X3_tailOf at h
  refine jv_aload_n (x := 1) (pc' := 1) hE dX3_tailOf_0 rfl 0 rfl rfl ?_
  refine jv_get (v := .ref 2) (pc' := 4) hE dX3_tailOf_1 rfl lF_X3_9 rfl rfl rfl ?_
  refine jv_iload_n (x := p1) (pc' := 5) hE dX3_tailOf_4 rfl 1 rfl rfl ?_
  refine jv_callN (pc' := 8) (o := some (.int (jv_rd (σ.1 2) 24 0 p1))) (σ' := σ) hE dX3_tailOf_5 rfl lN_X3_64 (ok_X7_at (n := 24) (by decide) rfl rfl) rfl (by decide) rfl (Nat.le_of_ble_eq_true rfl) ?_
  show jv_V E 8 [some (.ref 1), some (.int p1)] [.int (jv_rd (σ.1 2) 24 0 p1)] σ
  cases h
  exact hret _ _ dX3_tailOf_8
noncomputable def f_X3_headOf (σ : jv_S) (p1 : Int32) : Int32 := (jv_rd (σ.1 3) 24 0 p1)
set_option maxRecDepth 100000 in
set_option maxHeartbeats 4000000 in
theorem ok_X3_headOf {G : jv_G} {l : Launch} {σ : jv_S} {p1 : Int32} {r : Int32} (h : f_X3_headOf σ p1 = r) : jv_Cn G l 2 M_X3_headOf [.ref 1, .int p1] σ (some (.int r)) σ := by
  refine jv_of (L0 := [some (.ref 1), some (.int p1)]) (by decide +kernel) (Nat.le_of_ble_eq_true rfl) rfl (jv_okI _) (fun E e1 e2 hE hret => ?_)
  unfold f_X3_headOf at h
  refine jv_aload_n (x := 1) (pc' := 1) hE dX3_headOf_0 rfl 0 rfl rfl ?_
  refine jv_get (v := .ref 3) (pc' := 4) hE dX3_headOf_1 rfl lF_X3_15 rfl rfl rfl ?_
  refine jv_iload_n (x := p1) (pc' := 5) hE dX3_headOf_4 rfl 1 rfl rfl ?_
  refine jv_callN (pc' := 8) (o := some (.int (jv_rd (σ.1 3) 24 0 p1))) (σ' := σ) hE dX3_headOf_5 rfl lN_X3_64 (ok_X7_at (n := 24) (by decide) rfl rfl) rfl (by decide) rfl (Nat.le_of_ble_eq_true rfl) ?_
  show jv_V E 8 [some (.ref 1), some (.int p1)] [.int (jv_rd (σ.1 3) 24 0 p1)] σ
  cases h
  exact hret _ _ dX3_headOf_8
noncomputable def f_X3_isUsable (σ : jv_S) (p1 : Int32) : Bool := jv_lt (if (f_X7_hasBit σ (σ.1 1 8) (f_X3_tailOf σ p1)) = true then (true) else (if (f_X7_hasBit σ (σ.1 1 8) (f_X3_headOf σ p1)) = true then (true) else (false))) (fun q2 => jv_lt (if q2 = true then (false) else (if (f_X7_hasBit σ (σ.1 1 9) p1) = true then (false) else (true))) (fun q5 => q5))
set_option maxRecDepth 100000 in
set_option maxHeartbeats 4000000 in
theorem ok_X3_isUsable {G : jv_G} {l : Launch} {σ : jv_S} {p1 : Int32} {r : Bool} (h : f_X3_isUsable σ p1 = r) : jv_Cn G l 3 M_X3_isUsable [.ref 1, .int p1] σ (some (.int (jv_b r))) σ := by
  refine jv_of (L0 := [some (.ref 1), some (.int p1), none]) (by decide +kernel) (Nat.le_of_ble_eq_true rfl) rfl (jv_okZ _) (fun E e1 e2 hE hret => ?_)
  unfold f_X3_isUsable at h
  refine jv_aload_n (x := 1) (pc' := 1) hE dX3_isUsable_0 rfl 0 rfl rfl ?_
  refine jv_get (v := .int (σ.1 1 8)) (pc' := 4) hE dX3_isUsable_1 rfl lF_X3_37 rfl rfl rfl ?_
  refine jv_aload_n (x := 1) (pc' := 5) hE dX3_isUsable_4 rfl 0 rfl rfl ?_
  refine jv_iload_n (x := p1) (pc' := 6) hE dX3_isUsable_5 rfl 1 rfl rfl ?_
  refine jv_callV (pc' := 9) (o := some (.int (f_X3_tailOf σ p1))) (σ' := σ) hE dX3_isUsable_6 rfl lV_X3_71 (ok_X3_tailOf rfl) rfl rfl rfl (by decide) rfl (Nat.le_of_ble_eq_true rfl) ?_
  show jv_V E 9 [some (.ref 1), some (.int p1), none] [.int (f_X3_tailOf σ p1), .int (σ.1 1 8)] σ
  refine jv_callN (pc' := 12) (o := some (.int (jv_b (f_X7_hasBit σ (σ.1 1 8) (f_X3_tailOf σ p1))))) (σ' := σ) hE dX3_isUsable_9 rfl lN_X3_60 (ok_X7_hasBit rfl) rfl (by decide) rfl (Nat.le_of_ble_eq_true rfl) ?_
  show jv_V E 12 [some (.ref 1), some (.int p1), none] [.int (jv_b (f_X7_hasBit σ (σ.1 1 8) (f_X3_tailOf σ p1)))] σ
  obtain ⟨q2, hq2, h⟩ := jv_lt_eq h
  have kq2 : jv_V E 35 [some (.ref 1), some (.int p1), none] [.int (jv_b q2)] σ := by
    refine jv_istore_n (x := (jv_b q2)) (L' := [some (.ref 1), some (.int p1), some (.int (jv_b q2))]) (pc' := 36) hE dX3_isUsable_35 rfl 2 rfl (by decide) rfl rfl ?_
    refine jv_iload_n (x := (jv_b q2)) (pc' := 37) hE dX3_isUsable_36 rfl 2 rfl rfl ?_
    obtain ⟨q5, hq5, h⟩ := jv_lt_eq h
    have kq5 : jv_V E 56 [none, none, none] [.int (jv_b q5)] σ := by
      cases h
      exact hret _ _ dX3_isUsable_56
    refine jv_if_ne (x := (jv_b q2)) (tgt := 55) (pc' := 40) hE dX3_isUsable_37 (by decide) rfl (fun c4 => ?_) (fun c4 => ?_)
    · have c4 := jv_b1 c4
      rw [if_pos c4] at hq5
      refine jv_iconst (v := (0 : Int32)) (pc' := 56) hE dX3_isUsable_55 rfl (by decide) ?_
      cases hq5
      exact jv_forget [false, false, false] kq5
    · have c4 := jv_b0 c4
      rw [if_neg c4] at hq5
      refine jv_aload_n (x := 1) (pc' := 41) hE dX3_isUsable_40 rfl 0 rfl rfl ?_
      refine jv_get (v := .int (σ.1 1 9)) (pc' := 44) hE dX3_isUsable_41 rfl lF_X3_40 rfl rfl rfl ?_
      refine jv_iload_n (x := p1) (pc' := 45) hE dX3_isUsable_44 rfl 1 rfl rfl ?_
      refine jv_callN (pc' := 48) (o := some (.int (jv_b (f_X7_hasBit σ (σ.1 1 9) p1)))) (σ' := σ) hE dX3_isUsable_45 rfl lN_X3_60 (ok_X7_hasBit rfl) rfl (by decide) rfl (Nat.le_of_ble_eq_true rfl) ?_
      show jv_V E 48 [some (.ref 1), some (.int p1), some (.int (jv_b q2))] [.int (jv_b (f_X7_hasBit σ (σ.1 1 9) p1))] σ
      refine jv_if_ne (x := (jv_b (f_X7_hasBit σ (σ.1 1 9) p1))) (tgt := 55) (pc' := 51) hE dX3_isUsable_48 (by decide) rfl (fun c6 => ?_) (fun c6 => ?_)
      · have c6 := jv_b1 c6
        rw [if_pos c6] at hq5
        refine jv_iconst (v := (0 : Int32)) (pc' := 56) hE dX3_isUsable_55 rfl (by decide) ?_
        cases hq5
        exact jv_forget [false, false, false] kq5
      · have c6 := jv_b0 c6
        rw [if_neg c6] at hq5
        refine jv_iconst (v := (1 : Int32)) (pc' := 52) hE dX3_isUsable_51 rfl (by decide) ?_
        refine jv_goto (tgt := 56) hE dX3_isUsable_52 (by decide) ?_
        cases hq5
        exact jv_forget [false, false, false] kq5
  refine jv_if_ne (x := (jv_b (f_X7_hasBit σ (σ.1 1 8) (f_X3_tailOf σ p1)))) (tgt := 30) (pc' := 15) hE dX3_isUsable_12 (by decide) rfl (fun c1 => ?_) (fun c1 => ?_)
  · have c1 := jv_b1 c1
    rw [if_pos c1] at hq2
    refine jv_iconst (v := (1 : Int32)) (pc' := 31) hE dX3_isUsable_30 rfl (by decide) ?_
    refine jv_goto (tgt := 35) hE dX3_isUsable_31 (by decide) ?_
    cases hq2
    exact jv_forget [true, true, true] kq2
  · have c1 := jv_b0 c1
    rw [if_neg c1] at hq2
    refine jv_aload_n (x := 1) (pc' := 16) hE dX3_isUsable_15 rfl 0 rfl rfl ?_
    refine jv_get (v := .int (σ.1 1 8)) (pc' := 19) hE dX3_isUsable_16 rfl lF_X3_37 rfl rfl rfl ?_
    refine jv_aload_n (x := 1) (pc' := 20) hE dX3_isUsable_19 rfl 0 rfl rfl ?_
    refine jv_iload_n (x := p1) (pc' := 21) hE dX3_isUsable_20 rfl 1 rfl rfl ?_
    refine jv_callV (pc' := 24) (o := some (.int (f_X3_headOf σ p1))) (σ' := σ) hE dX3_isUsable_21 rfl lV_X3_78 (ok_X3_headOf rfl) rfl rfl rfl (by decide) rfl (Nat.le_of_ble_eq_true rfl) ?_
    show jv_V E 24 [some (.ref 1), some (.int p1), none] [.int (f_X3_headOf σ p1), .int (σ.1 1 8)] σ
    refine jv_callN (pc' := 27) (o := some (.int (jv_b (f_X7_hasBit σ (σ.1 1 8) (f_X3_headOf σ p1))))) (σ' := σ) hE dX3_isUsable_24 rfl lN_X3_60 (ok_X7_hasBit rfl) rfl (by decide) rfl (Nat.le_of_ble_eq_true rfl) ?_
    show jv_V E 27 [some (.ref 1), some (.int p1), none] [.int (jv_b (f_X7_hasBit σ (σ.1 1 8) (f_X3_headOf σ p1)))] σ
    refine jv_if_eq (x := (jv_b (f_X7_hasBit σ (σ.1 1 8) (f_X3_headOf σ p1)))) (tgt := 34) (pc' := 30) hE dX3_isUsable_27 (by decide) rfl (fun c3 => ?_) (fun c3 => ?_)
    · have c3 := jv_b0 c3
      rw [if_neg c3] at hq2
      refine jv_iconst (v := (0 : Int32)) (pc' := 35) hE dX3_isUsable_34 rfl (by decide) ?_
      cases hq2
      exact jv_forget [true, true, true] kq2
    · have c3 := jv_b1 c3
      rw [if_pos c3] at hq2
      refine jv_iconst (v := (1 : Int32)) (pc' := 31) hE dX3_isUsable_30 rfl (by decide) ?_
      refine jv_goto (tgt := 35) hE dX3_isUsable_31 (by decide) ?_
      cases hq2
      exact jv_forget [true, true, true] kq2
noncomputable def f_X3_listOutEdges_lp21 (a2 : Int32) : Nat → Int32 → Int32 → jv_S → Option (Int32 × Int32 × jv_S)
  | 0, _, _, _ => none
  | n + 1, v1, v3, σ => if (σ.1 1 7) ≤ v3 then (some (v1, v3, σ)) else (jv_lt (if (f_X3_tailOf σ v3) = a2 then (if (f_X3_isUsable σ v3) = true then (((v1 + (1 : Int32)), (jv_wr σ 6 24 v1 v3))) else ((v1, σ))) else ((v1, σ))) (fun q4 => f_X3_listOutEdges_lp21 a2 n q4.1 (v3 + (1 : Int32)) q4.2))
noncomputable def f_X3_listOutEdges_lp4 : Nat → Int32 → Int32 → jv_S → Option (Int32 × Int32 × jv_S)
  | 0, _, _, _ => none
  | n + 1, v1, v2, σ => if (10 : Int32) ≤ v2 then (some (v1, v2, σ)) else (jv_bd (f_X3_listOutEdges_lp21 v2 jv_fuel v1 (0 : Int32) (jv_wr σ 7 11 v2 v1)) (fun q2 => f_X3_listOutEdges_lp4 n q2.1 (v2 + (1 : Int32)) q2.2.2))
noncomputable def f_X3_listOutEdges (σ : jv_S) : Option (jv_S) := jv_bd (f_X3_listOutEdges_lp4 jv_fuel (0 : Int32) (0 : Int32) σ) (fun q3 => some (jv_wr q3.2.2 7 11 (10 : Int32) q3.1))
set_option maxRecDepth 100000 in
set_option maxHeartbeats 4000000 in
theorem lp_X3_listOutEdges_21 {a2 : Int32} {E : jv_E} (hE : jv_Cx E RX3 cX3_listOutEdges 4 4) : ∀ (n : Nat) (v1 : Int32) (v3 : Int32) (σ : jv_S) (q : Int32 × Int32 × jv_S), f_X3_listOutEdges_lp21 a2 n v1 v3 σ = some q → (jv_V E 64 [some (.ref 1), some (.int q.1), some (.int a2), none] [] q.2.2) → jv_V E 21 [some (.ref 1), some (.int v1), some (.int a2), some (.int v3)] [] σ := by
  intro n
  induction n with
  | zero =>
    intro v1 v3 σ q h
    rw [f_X3_listOutEdges_lp21] at h
    cases h
  | succ n ih =>
    intro v1 v3 σ q h hk
    rw [f_X3_listOutEdges_lp21] at h
    refine jv_iload_n (x := v3) (pc' := 22) hE dX3_listOutEdges_21 rfl 3 rfl rfl ?_
    refine jv_aload_n (x := 1) (pc' := 23) hE dX3_listOutEdges_22 rfl 0 rfl rfl ?_
    refine jv_get (v := .int (σ.1 1 7)) (pc' := 26) hE dX3_listOutEdges_23 rfl lF_X3_34 rfl rfl rfl ?_
    refine jv_icmp_ge (x := v3) (y := (σ.1 1 7)) (tgt := 64) (pc' := 29) hE dX3_listOutEdges_26 (by decide) rfl (fun c2 => ?_) (fun c2 => ?_)
    · rw [if_pos c2] at h
      cases h
      exact jv_forget [true, true, true, false] hk
    · rw [if_neg c2] at h
      refine jv_aload_n (x := 1) (pc' := 30) hE dX3_listOutEdges_29 rfl 0 rfl rfl ?_
      refine jv_iload_n (x := v3) (pc' := 31) hE dX3_listOutEdges_30 rfl 3 rfl rfl ?_
      refine jv_callV (pc' := 34) (o := some (.int (f_X3_tailOf σ v3))) (σ' := σ) hE dX3_listOutEdges_31 rfl lV_X3_71 (ok_X3_tailOf rfl) rfl rfl rfl (by decide) rfl (Nat.le_of_ble_eq_true rfl) ?_
      show jv_V E 34 [some (.ref 1), some (.int v1), some (.int a2), some (.int v3)] [.int (f_X3_tailOf σ v3)] σ
      refine jv_iload_n (x := a2) (pc' := 35) hE dX3_listOutEdges_34 rfl 2 rfl rfl ?_
      obtain ⟨q4, hq4, h⟩ := jv_lt_eq h
      have kq4 : jv_V E 58 [some (.ref 1), some (.int q4.1), some (.int a2), some (.int v3)] [] q4.2 := by
        refine jv_iinc (x := v3) (v := (v3 + (1 : Int32))) (L' := [some (.ref 1), some (.int q4.1), some (.int a2), some (.int (v3 + (1 : Int32)))]) (pc' := 61) hE dX3_listOutEdges_58 rfl rfl rfl (by decide) rfl rfl ?_
        refine jv_goto (tgt := 21) hE dX3_listOutEdges_61 (by decide) ?_
        exact jv_forget [true, true, true, true] (ih q4.1 (v3 + (1 : Int32)) q4.2 _ h hk)
      refine jv_icmp_ne (x := (f_X3_tailOf σ v3)) (y := a2) (tgt := 58) (pc' := 38) hE dX3_listOutEdges_35 (by decide) rfl (fun c3 => ?_) (fun c3 => ?_)
      · rw [if_neg c3] at hq4
        cases hq4
        exact jv_forget [true, true, true, true] kq4
      · rw [if_pos c3] at hq4
        refine jv_aload_n (x := 1) (pc' := 39) hE dX3_listOutEdges_38 rfl 0 rfl rfl ?_
        refine jv_iload_n (x := v3) (pc' := 40) hE dX3_listOutEdges_39 rfl 3 rfl rfl ?_
        refine jv_callV (pc' := 43) (o := some (.int (jv_b (f_X3_isUsable σ v3)))) (σ' := σ) hE dX3_listOutEdges_40 rfl lV_X3_74 (ok_X3_isUsable rfl) rfl rfl rfl (by decide) rfl (Nat.le_of_ble_eq_true rfl) ?_
        show jv_V E 43 [some (.ref 1), some (.int v1), some (.int a2), some (.int v3)] [.int (jv_b (f_X3_isUsable σ v3))] σ
        refine jv_if_eq (x := (jv_b (f_X3_isUsable σ v3))) (tgt := 58) (pc' := 46) hE dX3_listOutEdges_43 (by decide) rfl (fun c5 => ?_) (fun c5 => ?_)
        · have c5 := jv_b0 c5
          rw [if_neg c5] at hq4
          cases hq4
          exact jv_forget [true, true, true, true] kq4
        · have c5 := jv_b1 c5
          rw [if_pos c5] at hq4
          refine jv_aload_n (x := 1) (pc' := 47) hE dX3_listOutEdges_46 rfl 0 rfl rfl ?_
          refine jv_get (v := .ref 6) (pc' := 50) hE dX3_listOutEdges_47 rfl lF_X3_24 rfl rfl rfl ?_
          refine jv_iload_n (x := v1) (pc' := 51) hE dX3_listOutEdges_50 rfl 1 rfl rfl ?_
          refine jv_iload_n (x := v3) (pc' := 52) hE dX3_listOutEdges_51 rfl 3 rfl rfl ?_
          refine jv_callN (pc' := 55) (o := none) (σ' := (jv_wr σ 6 24 v1 v3)) hE dX3_listOutEdges_52 rfl lN_X3_52 (ok_X7_put (n := 24) (by decide) rfl rfl) rfl (by decide) rfl (Nat.le_of_ble_eq_true rfl) ?_
          show jv_V E 55 [some (.ref 1), some (.int v1), some (.int a2), some (.int v3)] [] (jv_wr σ 6 24 v1 v3)
          refine jv_iinc (x := v1) (v := (v1 + (1 : Int32))) (L' := [some (.ref 1), some (.int (v1 + (1 : Int32))), some (.int a2), some (.int v3)]) (pc' := 58) hE dX3_listOutEdges_55 rfl rfl rfl (by decide) rfl rfl ?_
          cases hq4
          exact jv_forget [true, true, true, true] kq4
set_option maxRecDepth 100000 in
set_option maxHeartbeats 4000000 in
theorem lp_X3_listOutEdges_4 {E : jv_E} (hE : jv_Cx E RX3 cX3_listOutEdges 4 4) : ∀ (n : Nat) (v1 : Int32) (v2 : Int32) (σ : jv_S) (q : Int32 × Int32 × jv_S), f_X3_listOutEdges_lp4 n v1 v2 σ = some q → (jv_V E 70 [some (.ref 1), some (.int q.1), none, none] [] q.2.2) → jv_V E 4 [some (.ref 1), some (.int v1), some (.int v2), none] [] σ := by
  intro n
  induction n with
  | zero =>
    intro v1 v2 σ q h
    rw [f_X3_listOutEdges_lp4] at h
    cases h
  | succ n ih =>
    intro v1 v2 σ q h hk
    rw [f_X3_listOutEdges_lp4] at h
    refine jv_iload_n (x := v2) (pc' := 5) hE dX3_listOutEdges_4 rfl 2 rfl rfl ?_
    refine jv_bipush (v := (10 : Int32)) (pc' := 7) hE dX3_listOutEdges_5 rfl (by decide) ?_
    refine jv_icmp_ge (x := v2) (y := (10 : Int32)) (tgt := 70) (pc' := 10) hE dX3_listOutEdges_7 (by decide) rfl (fun c1 => ?_) (fun c1 => ?_)
    · rw [if_pos c1] at h
      cases h
      exact jv_forget [true, true, false, true] hk
    · rw [if_neg c1] at h
      refine jv_aload_n (x := 1) (pc' := 11) hE dX3_listOutEdges_10 rfl 0 rfl rfl ?_
      refine jv_get (v := .ref 7) (pc' := 14) hE dX3_listOutEdges_11 rfl lF_X3_27 rfl rfl rfl ?_
      refine jv_iload_n (x := v2) (pc' := 15) hE dX3_listOutEdges_14 rfl 2 rfl rfl ?_
      refine jv_iload_n (x := v1) (pc' := 16) hE dX3_listOutEdges_15 rfl 1 rfl rfl ?_
      refine jv_callN (pc' := 19) (o := none) (σ' := (jv_wr σ 7 11 v2 v1)) hE dX3_listOutEdges_16 rfl lN_X3_52 (ok_X7_put (n := 11) (by decide) rfl rfl) rfl (by decide) rfl (Nat.le_of_ble_eq_true rfl) ?_
      show jv_V E 19 [some (.ref 1), some (.int v1), some (.int v2), none] [] (jv_wr σ 7 11 v2 v1)
      refine jv_iconst (v := (0 : Int32)) (pc' := 20) hE dX3_listOutEdges_19 rfl (by decide) ?_
      refine jv_istore_n (x := (0 : Int32)) (L' := [some (.ref 1), some (.int v1), some (.int v2), some (.int (0 : Int32))]) (pc' := 21) hE dX3_listOutEdges_20 rfl 3 rfl (by decide) rfl rfl ?_
      obtain ⟨q2, hq2, h⟩ := jv_bd_some h
      refine jv_forget [true, true, true, true] (lp_X3_listOutEdges_21 hE jv_fuel v1 (0 : Int32) (jv_wr σ 7 11 v2 v1) _ hq2 ?_)
      refine jv_iinc (x := v2) (v := (v2 + (1 : Int32))) (L' := [some (.ref 1), some (.int q2.1), some (.int (v2 + (1 : Int32))), none]) (pc' := 67) hE dX3_listOutEdges_64 rfl rfl rfl (by decide) rfl rfl ?_
      refine jv_goto (tgt := 4) hE dX3_listOutEdges_67 (by decide) ?_
      exact jv_forget [true, true, true, true] (ih q2.1 (v2 + (1 : Int32)) q2.2.2 _ h hk)
set_option maxRecDepth 100000 in
set_option maxHeartbeats 4000000 in
theorem ok_X3_listOutEdges {G : jv_G} {l : Launch} {σ : jv_S} {r : jv_S} (h : f_X3_listOutEdges σ = some r) : jv_Cn G l 4 M_X3_listOutEdges [.ref 1] σ (none) r := by
  refine jv_of (L0 := [some (.ref 1), none, none, none]) (by decide +kernel) (Nat.le_of_ble_eq_true rfl) rfl jv_okV (fun E e1 e2 hE hret => ?_)
  unfold f_X3_listOutEdges at h
  refine jv_iconst (v := (0 : Int32)) (pc' := 1) hE dX3_listOutEdges_0 rfl (by decide) ?_
  refine jv_istore_n (x := (0 : Int32)) (L' := [some (.ref 1), some (.int (0 : Int32)), none, none]) (pc' := 2) hE dX3_listOutEdges_1 rfl 1 rfl (by decide) rfl rfl ?_
  refine jv_iconst (v := (0 : Int32)) (pc' := 3) hE dX3_listOutEdges_2 rfl (by decide) ?_
  refine jv_istore_n (x := (0 : Int32)) (L' := [some (.ref 1), some (.int (0 : Int32)), some (.int (0 : Int32)), none]) (pc' := 4) hE dX3_listOutEdges_3 rfl 2 rfl (by decide) rfl rfl ?_
  obtain ⟨q3, hq3, h⟩ := jv_bd_some h
  refine jv_forget [true, true, true, true] (lp_X3_listOutEdges_4 hE jv_fuel (0 : Int32) (0 : Int32) σ _ hq3 ?_)
  refine jv_aload_n (x := 1) (pc' := 71) hE dX3_listOutEdges_70 rfl 0 rfl rfl ?_
  refine jv_get (v := .ref 7) (pc' := 74) hE dX3_listOutEdges_71 rfl lF_X3_27 rfl rfl rfl ?_
  refine jv_bipush (v := (10 : Int32)) (pc' := 76) hE dX3_listOutEdges_74 rfl (by decide) ?_
  refine jv_iload_n (x := q3.1) (pc' := 77) hE dX3_listOutEdges_76 rfl 1 rfl rfl ?_
  refine jv_callN (pc' := 80) (o := none) (σ' := (jv_wr q3.2.2 7 11 (10 : Int32) q3.1)) hE dX3_listOutEdges_77 rfl lN_X3_52 (ok_X7_put (n := 11) (by decide) rfl rfl) rfl (by decide) rfl (Nat.le_of_ble_eq_true rfl) ?_
  show jv_V E 80 [some (.ref 1), some (.int q3.1), none, none] [] (jv_wr q3.2.2 7 11 (10 : Int32) q3.1)
  cases h
  exact hret _ _ dX3_listOutEdges_80
noncomputable def f_X3_clear (σ : jv_S) (p1 : Int32) : Option (jv_S) := jv_bd (f_X3_listOutEdges (jv_fl (jv_si (jv_si (jv_si (jv_si σ 1 6 p1) 1 7 (0 : Int32)) 1 8 (0 : Int32)) 1 9 (0 : Int32)) 5 24 (0 : Int32))) (fun q1 => some q1)
set_option maxRecDepth 100000 in
set_option maxHeartbeats 4000000 in
theorem ok_X3_clear {G : jv_G} {l : Launch} {σ : jv_S} {p1 : Int32} {r : jv_S} (h : f_X3_clear σ p1 = some r) : jv_Cn G l 5 M_X3_clear [.ref 1, .int p1] σ (none) r := by
  refine jv_of (L0 := [some (.ref 1), some (.int p1)]) (by decide +kernel) (Nat.le_of_ble_eq_true rfl) rfl jv_okV (fun E e1 e2 hE hret => ?_)
  unfold f_X3_clear at h
  refine jv_aload_n (x := 1) (pc' := 1) hE dX3_clear_0 rfl 0 rfl rfl ?_
  refine jv_iload_n (x := p1) (pc' := 2) hE dX3_clear_1 rfl 1 rfl rfl ?_
  refine jv_puti (x := p1) (pc' := 5) hE dX3_clear_2 rfl lP_X3_30 rfl rfl rfl rfl ?_
  refine jv_aload_n (x := 1) (pc' := 6) hE dX3_clear_5 rfl 0 rfl rfl ?_
  refine jv_iconst (v := (0 : Int32)) (pc' := 7) hE dX3_clear_6 rfl (by decide) ?_
  refine jv_puti (x := (0 : Int32)) (pc' := 10) hE dX3_clear_7 rfl lP_X3_34 rfl rfl rfl rfl ?_
  refine jv_aload_n (x := 1) (pc' := 11) hE dX3_clear_10 rfl 0 rfl rfl ?_
  refine jv_iconst (v := (0 : Int32)) (pc' := 12) hE dX3_clear_11 rfl (by decide) ?_
  refine jv_puti (x := (0 : Int32)) (pc' := 15) hE dX3_clear_12 rfl lP_X3_37 rfl rfl rfl rfl ?_
  refine jv_aload_n (x := 1) (pc' := 16) hE dX3_clear_15 rfl 0 rfl rfl ?_
  refine jv_iconst (v := (0 : Int32)) (pc' := 17) hE dX3_clear_16 rfl (by decide) ?_
  refine jv_puti (x := (0 : Int32)) (pc' := 20) hE dX3_clear_17 rfl lP_X3_40 rfl rfl rfl rfl ?_
  refine jv_aload_n (x := 1) (pc' := 21) hE dX3_clear_20 rfl 0 rfl rfl ?_
  refine jv_get (v := .ref 5) (pc' := 24) hE dX3_clear_21 rfl lF_X3_21 rfl rfl rfl ?_
  refine jv_iconst (v := (0 : Int32)) (pc' := 25) hE dX3_clear_24 rfl (by decide) ?_
  refine jv_callS (pc' := 28) (o := none) (σ' := (jv_fl (jv_si (jv_si (jv_si (jv_si σ 1 6 p1) 1 7 (0 : Int32)) 1 8 (0 : Int32)) 1 9 (0 : Int32)) 5 24 (0 : Int32))) hE dX3_clear_25 rfl lS_X3_43 (ok_J7_fill_53178 (n := 24) (by decide) rfl rfl) rfl (by decide) rfl (Nat.le_of_ble_eq_true rfl) ?_
  show jv_V E 28 [some (.ref 1), some (.int p1)] [] (jv_fl (jv_si (jv_si (jv_si (jv_si σ 1 6 p1) 1 7 (0 : Int32)) 1 8 (0 : Int32)) 1 9 (0 : Int32)) 5 24 (0 : Int32))
  refine jv_aload_n (x := 1) (pc' := 29) hE dX3_clear_28 rfl 0 rfl rfl ?_
  obtain ⟨q1, hq1, h⟩ := jv_bd_some h
  refine jv_callV (pc' := 32) (o := none) (σ' := q1) hE dX3_clear_29 rfl lV_X3_49 (ok_X3_listOutEdges hq1) rfl rfl rfl (by decide) rfl (Nat.le_of_ble_eq_true rfl) ?_
  show jv_V E 32 [some (.ref 1), some (.int p1)] [] q1
  cases h
  exact hret _ _ dX3_clear_32
noncomputable def f_X3_hasNode (σ : jv_S) (p1 : Int32) : Bool := jv_lt (if p1 < 0 then (false) else (if (σ.1 1 6) ≤ p1 then (false) else (true))) (fun q2 => q2)
set_option maxRecDepth 100000 in
set_option maxHeartbeats 4000000 in
theorem ok_X3_hasNode {G : jv_G} {l : Launch} {σ : jv_S} {p1 : Int32} {r : Bool} (h : f_X3_hasNode σ p1 = r) : jv_Cn G l 1 M_X3_hasNode [.ref 1, .int p1] σ (some (.int (jv_b r))) σ := by
  refine jv_of (L0 := [some (.ref 1), some (.int p1)]) (by decide +kernel) (Nat.le_of_ble_eq_true rfl) rfl (jv_okZ _) (fun E e1 e2 hE hret => ?_)
  unfold f_X3_hasNode at h
  refine jv_iload_n (x := p1) (pc' := 1) hE dX3_hasNode_0 rfl 1 rfl rfl ?_
  obtain ⟨q2, hq2, h⟩ := jv_lt_eq h
  have kq2 : jv_V E 17 [none, none] [.int (jv_b q2)] σ := by
    cases h
    exact hret _ _ dX3_hasNode_17
  refine jv_if_lt (x := p1) (tgt := 16) (pc' := 4) hE dX3_hasNode_1 (by decide) rfl (fun c1 => ?_) (fun c1 => ?_)
  · rw [if_pos c1] at hq2
    refine jv_iconst (v := (0 : Int32)) (pc' := 17) hE dX3_hasNode_16 rfl (by decide) ?_
    cases hq2
    exact jv_forget [false, false] kq2
  · rw [if_neg c1] at hq2
    refine jv_iload_n (x := p1) (pc' := 5) hE dX3_hasNode_4 rfl 1 rfl rfl ?_
    refine jv_aload_n (x := 1) (pc' := 6) hE dX3_hasNode_5 rfl 0 rfl rfl ?_
    refine jv_get (v := .int (σ.1 1 6)) (pc' := 9) hE dX3_hasNode_6 rfl lF_X3_30 rfl rfl rfl ?_
    refine jv_icmp_ge (x := p1) (y := (σ.1 1 6)) (tgt := 16) (pc' := 12) hE dX3_hasNode_9 (by decide) rfl (fun c3 => ?_) (fun c3 => ?_)
    · rw [if_pos c3] at hq2
      refine jv_iconst (v := (0 : Int32)) (pc' := 17) hE dX3_hasNode_16 rfl (by decide) ?_
      cases hq2
      exact jv_forget [false, false] kq2
    · rw [if_neg c3] at hq2
      refine jv_iconst (v := (1 : Int32)) (pc' := 13) hE dX3_hasNode_12 rfl (by decide) ?_
      refine jv_goto (tgt := 17) hE dX3_hasNode_13 (by decide) ?_
      cases hq2
      exact jv_forget [false, false] kq2
noncomputable def f_X3_edgeTotal (σ : jv_S) : Int32 := (σ.1 1 7)
set_option maxRecDepth 100000 in
set_option maxHeartbeats 4000000 in
theorem ok_X3_edgeTotal {G : jv_G} {l : Launch} {σ : jv_S} {r : Int32} (h : f_X3_edgeTotal σ = r) : jv_Cn G l 1 M_X3_edgeTotal [.ref 1] σ (some (.int r)) σ := by
  refine jv_of (L0 := [some (.ref 1)]) (by decide +kernel) (Nat.le_of_ble_eq_true rfl) rfl (jv_okI _) (fun E e1 e2 hE hret => ?_)
  unfold f_X3_edgeTotal at h
  refine jv_aload_n (x := 1) (pc' := 1) hE dX3_edgeTotal_0 rfl 0 rfl rfl ?_
  refine jv_get (v := .int (σ.1 1 7)) (pc' := 4) hE dX3_edgeTotal_1 rfl lF_X3_34 rfl rfl rfl ?_
  cases h
  exact hret _ _ dX3_edgeTotal_4
noncomputable def f_X3_hasRoom (σ : jv_S) : Bool := jv_lt (if (24 : Int32) ≤ (σ.1 1 7) then (false) else (true)) (fun q2 => q2)
set_option maxRecDepth 100000 in
set_option maxHeartbeats 4000000 in
theorem ok_X3_hasRoom {G : jv_G} {l : Launch} {σ : jv_S} {r : Bool} (h : f_X3_hasRoom σ = r) : jv_Cn G l 1 M_X3_hasRoom [.ref 1] σ (some (.int (jv_b r))) σ := by
  refine jv_of (L0 := [some (.ref 1)]) (by decide +kernel) (Nat.le_of_ble_eq_true rfl) rfl (jv_okZ _) (fun E e1 e2 hE hret => ?_)
  unfold f_X3_hasRoom at h
  refine jv_aload_n (x := 1) (pc' := 1) hE dX3_hasRoom_0 rfl 0 rfl rfl ?_
  refine jv_get (v := .int (σ.1 1 7)) (pc' := 4) hE dX3_hasRoom_1 rfl lF_X3_34 rfl rfl rfl ?_
  refine jv_bipush (v := (24 : Int32)) (pc' := 6) hE dX3_hasRoom_4 rfl (by decide) ?_
  obtain ⟨q2, hq2, h⟩ := jv_lt_eq h
  have kq2 : jv_V E 14 [none] [.int (jv_b q2)] σ := by
    cases h
    exact hret _ _ dX3_hasRoom_14
  refine jv_icmp_ge (x := (σ.1 1 7)) (y := (24 : Int32)) (tgt := 13) (pc' := 9) hE dX3_hasRoom_6 (by decide) rfl (fun c1 => ?_) (fun c1 => ?_)
  · rw [if_pos c1] at hq2
    refine jv_iconst (v := (0 : Int32)) (pc' := 14) hE dX3_hasRoom_13 rfl (by decide) ?_
    cases hq2
    exact jv_forget [false] kq2
  · rw [if_neg c1] at hq2
    refine jv_iconst (v := (1 : Int32)) (pc' := 10) hE dX3_hasRoom_9 rfl (by decide) ?_
    refine jv_goto (tgt := 14) hE dX3_hasRoom_10 (by decide) ?_
    cases hq2
    exact jv_forget [false] kq2
noncomputable def f_X3_append (σ : jv_S) (p1 : Int32) (p2 : Int32) (p3 : Int32) : Option (Int32 × jv_S) := jv_bd (f_X3_listOutEdges (jv_si (jv_wr (jv_wr (jv_wr σ 2 24 (σ.1 1 7) p1) 3 24 (σ.1 1 7) p2) 4 24 (σ.1 1 7) p3) 1 7 (((jv_wr (jv_wr (jv_wr σ 2 24 (σ.1 1 7) p1) 3 24 (σ.1 1 7) p2) 4 24 (σ.1 1 7) p3).1 1 7) + (1 : Int32)))) (fun q1 => some ((σ.1 1 7), q1))
set_option maxRecDepth 100000 in
set_option maxHeartbeats 4000000 in
theorem ok_X3_append {G : jv_G} {l : Launch} {σ : jv_S} {p1 : Int32} {p2 : Int32} {p3 : Int32} {r : Int32 × jv_S} (h : f_X3_append σ p1 p2 p3 = some r) : jv_Cn G l 5 M_X3_append [.ref 1, .int p1, .int p2, .int p3] σ (some (.int r.1)) r.2 := by
  refine jv_of (L0 := [some (.ref 1), some (.int p1), some (.int p2), some (.int p3), none]) (by decide +kernel) (Nat.le_of_ble_eq_true rfl) rfl (jv_okI _) (fun E e1 e2 hE hret => ?_)
  unfold f_X3_append at h
  refine jv_aload_n (x := 1) (pc' := 1) hE dX3_append_0 rfl 0 rfl rfl ?_
  refine jv_get (v := .int (σ.1 1 7)) (pc' := 4) hE dX3_append_1 rfl lF_X3_34 rfl rfl rfl ?_
  refine jv_istore (x := (σ.1 1 7)) (L' := [some (.ref 1), some (.int p1), some (.int p2), some (.int p3), some (.int (σ.1 1 7))]) (pc' := 6) hE dX3_append_4 rfl (by decide) rfl rfl ?_
  refine jv_aload_n (x := 1) (pc' := 7) hE dX3_append_6 rfl 0 rfl rfl ?_
  refine jv_get (v := .ref 2) (pc' := 10) hE dX3_append_7 rfl lF_X3_9 rfl rfl rfl ?_
  refine jv_iload (x := (σ.1 1 7)) (pc' := 12) hE dX3_append_10 rfl rfl ?_
  refine jv_iload_n (x := p1) (pc' := 13) hE dX3_append_12 rfl 1 rfl rfl ?_
  refine jv_callN (pc' := 16) (o := none) (σ' := (jv_wr σ 2 24 (σ.1 1 7) p1)) hE dX3_append_13 rfl lN_X3_52 (ok_X7_put (n := 24) (by decide) rfl rfl) rfl (by decide) rfl (Nat.le_of_ble_eq_true rfl) ?_
  show jv_V E 16 [some (.ref 1), some (.int p1), some (.int p2), some (.int p3), some (.int (σ.1 1 7))] [] (jv_wr σ 2 24 (σ.1 1 7) p1)
  refine jv_aload_n (x := 1) (pc' := 17) hE dX3_append_16 rfl 0 rfl rfl ?_
  refine jv_get (v := .ref 3) (pc' := 20) hE dX3_append_17 rfl lF_X3_15 rfl rfl rfl ?_
  refine jv_iload (x := (σ.1 1 7)) (pc' := 22) hE dX3_append_20 rfl rfl ?_
  refine jv_iload_n (x := p2) (pc' := 23) hE dX3_append_22 rfl 2 rfl rfl ?_
  refine jv_callN (pc' := 26) (o := none) (σ' := (jv_wr (jv_wr σ 2 24 (σ.1 1 7) p1) 3 24 (σ.1 1 7) p2)) hE dX3_append_23 rfl lN_X3_52 (ok_X7_put (n := 24) (by decide) rfl rfl) rfl (by decide) rfl (Nat.le_of_ble_eq_true rfl) ?_
  show jv_V E 26 [some (.ref 1), some (.int p1), some (.int p2), some (.int p3), some (.int (σ.1 1 7))] [] (jv_wr (jv_wr σ 2 24 (σ.1 1 7) p1) 3 24 (σ.1 1 7) p2)
  refine jv_aload_n (x := 1) (pc' := 27) hE dX3_append_26 rfl 0 rfl rfl ?_
  refine jv_get (v := .ref 4) (pc' := 30) hE dX3_append_27 rfl lF_X3_18 rfl rfl rfl ?_
  refine jv_iload (x := (σ.1 1 7)) (pc' := 32) hE dX3_append_30 rfl rfl ?_
  refine jv_iload_n (x := p3) (pc' := 33) hE dX3_append_32 rfl 3 rfl rfl ?_
  refine jv_callN (pc' := 36) (o := none) (σ' := (jv_wr (jv_wr (jv_wr σ 2 24 (σ.1 1 7) p1) 3 24 (σ.1 1 7) p2) 4 24 (σ.1 1 7) p3)) hE dX3_append_33 rfl lN_X3_52 (ok_X7_put (n := 24) (by decide) rfl rfl) rfl (by decide) rfl (Nat.le_of_ble_eq_true rfl) ?_
  show jv_V E 36 [some (.ref 1), some (.int p1), some (.int p2), some (.int p3), some (.int (σ.1 1 7))] [] (jv_wr (jv_wr (jv_wr σ 2 24 (σ.1 1 7) p1) 3 24 (σ.1 1 7) p2) 4 24 (σ.1 1 7) p3)
  refine jv_aload_n (x := 1) (pc' := 37) hE dX3_append_36 rfl 0 rfl rfl ?_
  refine jv_dup (pc' := 38) hE dX3_append_37 rfl rfl ?_
  refine jv_get (v := .int ((jv_wr (jv_wr (jv_wr σ 2 24 (σ.1 1 7) p1) 3 24 (σ.1 1 7) p2) 4 24 (σ.1 1 7) p3).1 1 7)) (pc' := 41) hE dX3_append_38 rfl lF_X3_34 rfl rfl rfl ?_
  refine jv_iconst (v := (1 : Int32)) (pc' := 42) hE dX3_append_41 rfl (by decide) ?_
  refine jv_iadd (x := ((jv_wr (jv_wr (jv_wr σ 2 24 (σ.1 1 7) p1) 3 24 (σ.1 1 7) p2) 4 24 (σ.1 1 7) p3).1 1 7)) (y := (1 : Int32)) (pc' := 43) hE dX3_append_42 rfl ?_
  refine jv_puti (x := (((jv_wr (jv_wr (jv_wr σ 2 24 (σ.1 1 7) p1) 3 24 (σ.1 1 7) p2) 4 24 (σ.1 1 7) p3).1 1 7) + (1 : Int32))) (pc' := 46) hE dX3_append_43 rfl lP_X3_34 rfl rfl rfl rfl ?_
  refine jv_aload_n (x := 1) (pc' := 47) hE dX3_append_46 rfl 0 rfl rfl ?_
  obtain ⟨q1, hq1, h⟩ := jv_bd_some h
  refine jv_callV (pc' := 50) (o := none) (σ' := q1) hE dX3_append_47 rfl lV_X3_49 (ok_X3_listOutEdges hq1) rfl rfl rfl (by decide) rfl (Nat.le_of_ble_eq_true rfl) ?_
  show jv_V E 50 [some (.ref 1), some (.int p1), some (.int p2), some (.int p3), some (.int (σ.1 1 7))] [] q1
  refine jv_iload (x := (σ.1 1 7)) (pc' := 52) hE dX3_append_50 rfl rfl ?_
  cases h
  exact hret _ _ dX3_append_52
noncomputable def f_X3_hasEdge (σ : jv_S) (p1 : Int32) : Bool := jv_lt (if p1 < 0 then (false) else (if (σ.1 1 7) ≤ p1 then (false) else (true))) (fun q2 => q2)
set_option maxRecDepth 100000 in
set_option maxHeartbeats 4000000 in
theorem ok_X3_hasEdge {G : jv_G} {l : Launch} {σ : jv_S} {p1 : Int32} {r : Bool} (h : f_X3_hasEdge σ p1 = r) : jv_Cn G l 1 M_X3_hasEdge [.ref 1, .int p1] σ (some (.int (jv_b r))) σ := by
  refine jv_of (L0 := [some (.ref 1), some (.int p1)]) (by decide +kernel) (Nat.le_of_ble_eq_true rfl) rfl (jv_okZ _) (fun E e1 e2 hE hret => ?_)
  unfold f_X3_hasEdge at h
  refine jv_iload_n (x := p1) (pc' := 1) hE dX3_hasEdge_0 rfl 1 rfl rfl ?_
  obtain ⟨q2, hq2, h⟩ := jv_lt_eq h
  have kq2 : jv_V E 17 [none, none] [.int (jv_b q2)] σ := by
    cases h
    exact hret _ _ dX3_hasEdge_17
  refine jv_if_lt (x := p1) (tgt := 16) (pc' := 4) hE dX3_hasEdge_1 (by decide) rfl (fun c1 => ?_) (fun c1 => ?_)
  · rw [if_pos c1] at hq2
    refine jv_iconst (v := (0 : Int32)) (pc' := 17) hE dX3_hasEdge_16 rfl (by decide) ?_
    cases hq2
    exact jv_forget [false, false] kq2
  · rw [if_neg c1] at hq2
    refine jv_iload_n (x := p1) (pc' := 5) hE dX3_hasEdge_4 rfl 1 rfl rfl ?_
    refine jv_aload_n (x := 1) (pc' := 6) hE dX3_hasEdge_5 rfl 0 rfl rfl ?_
    refine jv_get (v := .int (σ.1 1 7)) (pc' := 9) hE dX3_hasEdge_6 rfl lF_X3_34 rfl rfl rfl ?_
    refine jv_icmp_ge (x := p1) (y := (σ.1 1 7)) (tgt := 16) (pc' := 12) hE dX3_hasEdge_9 (by decide) rfl (fun c3 => ?_) (fun c3 => ?_)
    · rw [if_pos c3] at hq2
      refine jv_iconst (v := (0 : Int32)) (pc' := 17) hE dX3_hasEdge_16 rfl (by decide) ?_
      cases hq2
      exact jv_forget [false, false] kq2
    · rw [if_neg c3] at hq2
      refine jv_iconst (v := (1 : Int32)) (pc' := 13) hE dX3_hasEdge_12 rfl (by decide) ?_
      refine jv_goto (tgt := 17) hE dX3_hasEdge_13 (by decide) ?_
      cases hq2
      exact jv_forget [false, false] kq2
noncomputable def f_X3_lengthOf (σ : jv_S) (p1 : Int32) : Int32 := (jv_rd (σ.1 4) 24 0 p1)
set_option maxRecDepth 100000 in
set_option maxHeartbeats 4000000 in
theorem ok_X3_lengthOf {G : jv_G} {l : Launch} {σ : jv_S} {p1 : Int32} {r : Int32} (h : f_X3_lengthOf σ p1 = r) : jv_Cn G l 2 M_X3_lengthOf [.ref 1, .int p1] σ (some (.int r)) σ := by
  refine jv_of (L0 := [some (.ref 1), some (.int p1)]) (by decide +kernel) (Nat.le_of_ble_eq_true rfl) rfl (jv_okI _) (fun E e1 e2 hE hret => ?_)
  unfold f_X3_lengthOf at h
  refine jv_aload_n (x := 1) (pc' := 1) hE dX3_lengthOf_0 rfl 0 rfl rfl ?_
  refine jv_get (v := .ref 4) (pc' := 4) hE dX3_lengthOf_1 rfl lF_X3_18 rfl rfl rfl ?_
  refine jv_iload_n (x := p1) (pc' := 5) hE dX3_lengthOf_4 rfl 1 rfl rfl ?_
  refine jv_callN (pc' := 8) (o := some (.int (jv_rd (σ.1 4) 24 0 p1))) (σ' := σ) hE dX3_lengthOf_5 rfl lN_X3_64 (ok_X7_at (n := 24) (by decide) rfl rfl) rfl (by decide) rfl (Nat.le_of_ble_eq_true rfl) ?_
  show jv_V E 8 [some (.ref 1), some (.int p1)] [.int (jv_rd (σ.1 4) 24 0 p1)] σ
  cases h
  exact hret _ _ dX3_lengthOf_8
noncomputable def f_X3_changeLength (σ : jv_S) (p1 : Int32) (p2 : Int32) : Int32 × jv_S := ((f_X3_lengthOf σ p1), (jv_wr σ 4 24 p1 p2))
set_option maxRecDepth 100000 in
set_option maxHeartbeats 4000000 in
theorem ok_X3_changeLength {G : jv_G} {l : Launch} {σ : jv_S} {p1 : Int32} {p2 : Int32} {r : Int32 × jv_S} (h : f_X3_changeLength σ p1 p2 = r) : jv_Cn G l 3 M_X3_changeLength [.ref 1, .int p1, .int p2] σ (some (.int r.1)) r.2 := by
  refine jv_of (L0 := [some (.ref 1), some (.int p1), some (.int p2), none]) (by decide +kernel) (Nat.le_of_ble_eq_true rfl) rfl (jv_okI _) (fun E e1 e2 hE hret => ?_)
  unfold f_X3_changeLength at h
  refine jv_aload_n (x := 1) (pc' := 1) hE dX3_changeLength_0 rfl 0 rfl rfl ?_
  refine jv_iload_n (x := p1) (pc' := 2) hE dX3_changeLength_1 rfl 1 rfl rfl ?_
  refine jv_callV (pc' := 5) (o := some (.int (f_X3_lengthOf σ p1))) (σ' := σ) hE dX3_changeLength_2 rfl lV_X3_56 (ok_X3_lengthOf rfl) rfl rfl rfl (by decide) rfl (Nat.le_of_ble_eq_true rfl) ?_
  show jv_V E 5 [some (.ref 1), some (.int p1), some (.int p2), none] [.int (f_X3_lengthOf σ p1)] σ
  refine jv_istore_n (x := (f_X3_lengthOf σ p1)) (L' := [some (.ref 1), some (.int p1), some (.int p2), some (.int (f_X3_lengthOf σ p1))]) (pc' := 6) hE dX3_changeLength_5 rfl 3 rfl (by decide) rfl rfl ?_
  refine jv_aload_n (x := 1) (pc' := 7) hE dX3_changeLength_6 rfl 0 rfl rfl ?_
  refine jv_get (v := .ref 4) (pc' := 10) hE dX3_changeLength_7 rfl lF_X3_18 rfl rfl rfl ?_
  refine jv_iload_n (x := p1) (pc' := 11) hE dX3_changeLength_10 rfl 1 rfl rfl ?_
  refine jv_iload_n (x := p2) (pc' := 12) hE dX3_changeLength_11 rfl 2 rfl rfl ?_
  refine jv_callN (pc' := 15) (o := none) (σ' := (jv_wr σ 4 24 p1 p2)) hE dX3_changeLength_12 rfl lN_X3_52 (ok_X7_put (n := 24) (by decide) rfl rfl) rfl (by decide) rfl (Nat.le_of_ble_eq_true rfl) ?_
  show jv_V E 15 [some (.ref 1), some (.int p1), some (.int p2), some (.int (f_X3_lengthOf σ p1))] [] (jv_wr σ 4 24 p1 p2)
  refine jv_iload_n (x := (f_X3_lengthOf σ p1)) (pc' := 16) hE dX3_changeLength_15 rfl 3 rfl rfl ?_
  cases h
  exact hret _ _ dX3_changeLength_16
noncomputable def f_X3_switchEdge (σ : jv_S) (p1 : Int32) : Option (Bool × jv_S) := jv_bd (f_X3_listOutEdges (jv_si σ 1 9 ((σ.1 1 9) ^^^ ((1 : Int32) <<< (p1 &&& 31))))) (fun q1 => some ((f_X7_hasBit q1 (q1.1 1 9) p1), q1))
set_option maxRecDepth 100000 in
set_option maxHeartbeats 4000000 in
theorem ok_X3_switchEdge {G : jv_G} {l : Launch} {σ : jv_S} {p1 : Int32} {r : Bool × jv_S} (h : f_X3_switchEdge σ p1 = some r) : jv_Cn G l 5 M_X3_switchEdge [.ref 1, .int p1] σ (some (.int (jv_b r.1))) r.2 := by
  refine jv_of (L0 := [some (.ref 1), some (.int p1)]) (by decide +kernel) (Nat.le_of_ble_eq_true rfl) rfl (jv_okZ _) (fun E e1 e2 hE hret => ?_)
  unfold f_X3_switchEdge at h
  refine jv_aload_n (x := 1) (pc' := 1) hE dX3_switchEdge_0 rfl 0 rfl rfl ?_
  refine jv_dup (pc' := 2) hE dX3_switchEdge_1 rfl rfl ?_
  refine jv_get (v := .int (σ.1 1 9)) (pc' := 5) hE dX3_switchEdge_2 rfl lF_X3_40 rfl rfl rfl ?_
  refine jv_iconst (v := (1 : Int32)) (pc' := 6) hE dX3_switchEdge_5 rfl (by decide) ?_
  refine jv_iload_n (x := p1) (pc' := 7) hE dX3_switchEdge_6 rfl 1 rfl rfl ?_
  refine jv_ishl (x := (1 : Int32)) (y := p1) (pc' := 8) hE dX3_switchEdge_7 rfl ?_
  refine jv_ixor (x := (σ.1 1 9)) (y := ((1 : Int32) <<< (p1 &&& 31))) (pc' := 9) hE dX3_switchEdge_8 rfl ?_
  refine jv_puti (x := ((σ.1 1 9) ^^^ ((1 : Int32) <<< (p1 &&& 31)))) (pc' := 12) hE dX3_switchEdge_9 rfl lP_X3_40 rfl rfl rfl rfl ?_
  refine jv_aload_n (x := 1) (pc' := 13) hE dX3_switchEdge_12 rfl 0 rfl rfl ?_
  obtain ⟨q1, hq1, h⟩ := jv_bd_some h
  refine jv_callV (pc' := 16) (o := none) (σ' := q1) hE dX3_switchEdge_13 rfl lV_X3_49 (ok_X3_listOutEdges hq1) rfl rfl rfl (by decide) rfl (Nat.le_of_ble_eq_true rfl) ?_
  show jv_V E 16 [some (.ref 1), some (.int p1)] [] q1
  refine jv_aload_n (x := 1) (pc' := 17) hE dX3_switchEdge_16 rfl 0 rfl rfl ?_
  refine jv_get (v := .int (q1.1 1 9)) (pc' := 20) hE dX3_switchEdge_17 rfl lF_X3_40 rfl rfl rfl ?_
  refine jv_iload_n (x := p1) (pc' := 21) hE dX3_switchEdge_20 rfl 1 rfl rfl ?_
  refine jv_callN (pc' := 24) (o := some (.int (jv_b (f_X7_hasBit q1 (q1.1 1 9) p1)))) (σ' := q1) hE dX3_switchEdge_21 rfl lN_X3_60 (ok_X7_hasBit rfl) rfl (by decide) rfl (Nat.le_of_ble_eq_true rfl) ?_
  show jv_V E 24 [some (.ref 1), some (.int p1)] [.int (jv_b (f_X7_hasBit q1 (q1.1 1 9) p1))] q1
  cases h
  exact hret _ _ dX3_switchEdge_24
noncomputable def f_X3_switchNode (σ : jv_S) (p1 : Int32) : Option (Bool × jv_S) := jv_bd (f_X3_listOutEdges (jv_si σ 1 8 ((σ.1 1 8) ^^^ ((1 : Int32) <<< (p1 &&& 31))))) (fun q1 => some ((f_X7_hasBit q1 (q1.1 1 8) p1), q1))
set_option maxRecDepth 100000 in
set_option maxHeartbeats 4000000 in
theorem ok_X3_switchNode {G : jv_G} {l : Launch} {σ : jv_S} {p1 : Int32} {r : Bool × jv_S} (h : f_X3_switchNode σ p1 = some r) : jv_Cn G l 5 M_X3_switchNode [.ref 1, .int p1] σ (some (.int (jv_b r.1))) r.2 := by
  refine jv_of (L0 := [some (.ref 1), some (.int p1)]) (by decide +kernel) (Nat.le_of_ble_eq_true rfl) rfl (jv_okZ _) (fun E e1 e2 hE hret => ?_)
  unfold f_X3_switchNode at h
  refine jv_aload_n (x := 1) (pc' := 1) hE dX3_switchNode_0 rfl 0 rfl rfl ?_
  refine jv_dup (pc' := 2) hE dX3_switchNode_1 rfl rfl ?_
  refine jv_get (v := .int (σ.1 1 8)) (pc' := 5) hE dX3_switchNode_2 rfl lF_X3_37 rfl rfl rfl ?_
  refine jv_iconst (v := (1 : Int32)) (pc' := 6) hE dX3_switchNode_5 rfl (by decide) ?_
  refine jv_iload_n (x := p1) (pc' := 7) hE dX3_switchNode_6 rfl 1 rfl rfl ?_
  refine jv_ishl (x := (1 : Int32)) (y := p1) (pc' := 8) hE dX3_switchNode_7 rfl ?_
  refine jv_ixor (x := (σ.1 1 8)) (y := ((1 : Int32) <<< (p1 &&& 31))) (pc' := 9) hE dX3_switchNode_8 rfl ?_
  refine jv_puti (x := ((σ.1 1 8) ^^^ ((1 : Int32) <<< (p1 &&& 31)))) (pc' := 12) hE dX3_switchNode_9 rfl lP_X3_37 rfl rfl rfl rfl ?_
  refine jv_aload_n (x := 1) (pc' := 13) hE dX3_switchNode_12 rfl 0 rfl rfl ?_
  obtain ⟨q1, hq1, h⟩ := jv_bd_some h
  refine jv_callV (pc' := 16) (o := none) (σ' := q1) hE dX3_switchNode_13 rfl lV_X3_49 (ok_X3_listOutEdges hq1) rfl rfl rfl (by decide) rfl (Nat.le_of_ble_eq_true rfl) ?_
  show jv_V E 16 [some (.ref 1), some (.int p1)] [] q1
  refine jv_aload_n (x := 1) (pc' := 17) hE dX3_switchNode_16 rfl 0 rfl rfl ?_
  refine jv_get (v := .int (q1.1 1 8)) (pc' := 20) hE dX3_switchNode_17 rfl lF_X3_37 rfl rfl rfl ?_
  refine jv_iload_n (x := p1) (pc' := 21) hE dX3_switchNode_20 rfl 1 rfl rfl ?_
  refine jv_callN (pc' := 24) (o := some (.int (jv_b (f_X7_hasBit q1 (q1.1 1 8) p1)))) (σ' := q1) hE dX3_switchNode_21 rfl lN_X3_60 (ok_X7_hasBit rfl) rfl (by decide) rfl (Nat.le_of_ble_eq_true rfl) ?_
  show jv_V E 24 [some (.ref 1), some (.int p1)] [.int (jv_b (f_X7_hasBit q1 (q1.1 1 8) p1))] q1
  cases h
  exact hret _ _ dX3_switchNode_24
noncomputable def f_X3_isForbidden (σ : jv_S) (p1 : Int32) (p2 : Int32) : Bool := (f_X7_hasBit σ (jv_rd (σ.1 5) 24 0 p1) p2)
set_option maxRecDepth 100000 in
set_option maxHeartbeats 4000000 in
theorem ok_X3_isForbidden {G : jv_G} {l : Launch} {σ : jv_S} {p1 : Int32} {p2 : Int32} {r : Bool} (h : f_X3_isForbidden σ p1 p2 = r) : jv_Cn G l 2 M_X3_isForbidden [.ref 1, .int p1, .int p2] σ (some (.int (jv_b r))) σ := by
  refine jv_of (L0 := [some (.ref 1), some (.int p1), some (.int p2)]) (by decide +kernel) (Nat.le_of_ble_eq_true rfl) rfl (jv_okZ _) (fun E e1 e2 hE hret => ?_)
  unfold f_X3_isForbidden at h
  refine jv_aload_n (x := 1) (pc' := 1) hE dX3_isForbidden_0 rfl 0 rfl rfl ?_
  refine jv_get (v := .ref 5) (pc' := 4) hE dX3_isForbidden_1 rfl lF_X3_21 rfl rfl rfl ?_
  refine jv_iload_n (x := p1) (pc' := 5) hE dX3_isForbidden_4 rfl 1 rfl rfl ?_
  refine jv_callN (pc' := 8) (o := some (.int (jv_rd (σ.1 5) 24 0 p1))) (σ' := σ) hE dX3_isForbidden_5 rfl lN_X3_64 (ok_X7_at (n := 24) (by decide) rfl rfl) rfl (by decide) rfl (Nat.le_of_ble_eq_true rfl) ?_
  show jv_V E 8 [some (.ref 1), some (.int p1), some (.int p2)] [.int (jv_rd (σ.1 5) 24 0 p1)] σ
  refine jv_iload_n (x := p2) (pc' := 9) hE dX3_isForbidden_8 rfl 2 rfl rfl ?_
  refine jv_callN (pc' := 12) (o := some (.int (jv_b (f_X7_hasBit σ (jv_rd (σ.1 5) 24 0 p1) p2)))) (σ' := σ) hE dX3_isForbidden_9 rfl lN_X3_60 (ok_X7_hasBit rfl) rfl (by decide) rfl (Nat.le_of_ble_eq_true rfl) ?_
  show jv_V E 12 [some (.ref 1), some (.int p1), some (.int p2)] [.int (jv_b (f_X7_hasBit σ (jv_rd (σ.1 5) 24 0 p1) p2))] σ
  cases h
  exact hret _ _ dX3_isForbidden_12
noncomputable def f_X3_switchTurn (σ : jv_S) (p1 : Int32) (p2 : Int32) : Bool × jv_S := ((f_X3_isForbidden (jv_wr σ 5 24 p1 ((jv_rd (σ.1 5) 24 0 p1) ^^^ ((1 : Int32) <<< (p2 &&& 31)))) p1 p2), (jv_wr σ 5 24 p1 ((jv_rd (σ.1 5) 24 0 p1) ^^^ ((1 : Int32) <<< (p2 &&& 31)))))
set_option maxRecDepth 100000 in
set_option maxHeartbeats 4000000 in
theorem ok_X3_switchTurn {G : jv_G} {l : Launch} {σ : jv_S} {p1 : Int32} {p2 : Int32} {r : Bool × jv_S} (h : f_X3_switchTurn σ p1 p2 = r) : jv_Cn G l 3 M_X3_switchTurn [.ref 1, .int p1, .int p2] σ (some (.int (jv_b r.1))) r.2 := by
  refine jv_of (L0 := [some (.ref 1), some (.int p1), some (.int p2)]) (by decide +kernel) (Nat.le_of_ble_eq_true rfl) rfl (jv_okZ _) (fun E e1 e2 hE hret => ?_)
  unfold f_X3_switchTurn at h
  refine jv_aload_n (x := 1) (pc' := 1) hE dX3_switchTurn_0 rfl 0 rfl rfl ?_
  refine jv_get (v := .ref 5) (pc' := 4) hE dX3_switchTurn_1 rfl lF_X3_21 rfl rfl rfl ?_
  refine jv_iload_n (x := p1) (pc' := 5) hE dX3_switchTurn_4 rfl 1 rfl rfl ?_
  refine jv_aload_n (x := 1) (pc' := 6) hE dX3_switchTurn_5 rfl 0 rfl rfl ?_
  refine jv_get (v := .ref 5) (pc' := 9) hE dX3_switchTurn_6 rfl lF_X3_21 rfl rfl rfl ?_
  refine jv_iload_n (x := p1) (pc' := 10) hE dX3_switchTurn_9 rfl 1 rfl rfl ?_
  refine jv_callN (pc' := 13) (o := some (.int (jv_rd (σ.1 5) 24 0 p1))) (σ' := σ) hE dX3_switchTurn_10 rfl lN_X3_64 (ok_X7_at (n := 24) (by decide) rfl rfl) rfl (by decide) rfl (Nat.le_of_ble_eq_true rfl) ?_
  show jv_V E 13 [some (.ref 1), some (.int p1), some (.int p2)] [.int (jv_rd (σ.1 5) 24 0 p1), .int p1, .ref 5] σ
  refine jv_iconst (v := (1 : Int32)) (pc' := 14) hE dX3_switchTurn_13 rfl (by decide) ?_
  refine jv_iload_n (x := p2) (pc' := 15) hE dX3_switchTurn_14 rfl 2 rfl rfl ?_
  refine jv_ishl (x := (1 : Int32)) (y := p2) (pc' := 16) hE dX3_switchTurn_15 rfl ?_
  refine jv_ixor (x := (jv_rd (σ.1 5) 24 0 p1)) (y := ((1 : Int32) <<< (p2 &&& 31))) (pc' := 17) hE dX3_switchTurn_16 rfl ?_
  refine jv_callN (pc' := 20) (o := none) (σ' := (jv_wr σ 5 24 p1 ((jv_rd (σ.1 5) 24 0 p1) ^^^ ((1 : Int32) <<< (p2 &&& 31))))) hE dX3_switchTurn_17 rfl lN_X3_52 (ok_X7_put (n := 24) (by decide) rfl rfl) rfl (by decide) rfl (Nat.le_of_ble_eq_true rfl) ?_
  show jv_V E 20 [some (.ref 1), some (.int p1), some (.int p2)] [] (jv_wr σ 5 24 p1 ((jv_rd (σ.1 5) 24 0 p1) ^^^ ((1 : Int32) <<< (p2 &&& 31))))
  refine jv_aload_n (x := 1) (pc' := 21) hE dX3_switchTurn_20 rfl 0 rfl rfl ?_
  refine jv_iload_n (x := p1) (pc' := 22) hE dX3_switchTurn_21 rfl 1 rfl rfl ?_
  refine jv_iload_n (x := p2) (pc' := 23) hE dX3_switchTurn_22 rfl 2 rfl rfl ?_
  refine jv_callV (pc' := 26) (o := some (.int (jv_b (f_X3_isForbidden (jv_wr σ 5 24 p1 ((jv_rd (σ.1 5) 24 0 p1) ^^^ ((1 : Int32) <<< (p2 &&& 31)))) p1 p2)))) (σ' := (jv_wr σ 5 24 p1 ((jv_rd (σ.1 5) 24 0 p1) ^^^ ((1 : Int32) <<< (p2 &&& 31))))) hE dX3_switchTurn_23 rfl lV_X3_68 (ok_X3_isForbidden rfl) rfl rfl rfl (by decide) rfl (Nat.le_of_ble_eq_true rfl) ?_
  show jv_V E 26 [some (.ref 1), some (.int p1), some (.int p2)] [.int (jv_b (f_X3_isForbidden (jv_wr σ 5 24 p1 ((jv_rd (σ.1 5) 24 0 p1) ^^^ ((1 : Int32) <<< (p2 &&& 31)))) p1 p2))] (jv_wr σ 5 24 p1 ((jv_rd (σ.1 5) 24 0 p1) ^^^ ((1 : Int32) <<< (p2 &&& 31))))
  cases h
  exact hret _ _ dX3_switchTurn_26
noncomputable def f_X3_usableTotal (σ : jv_S) : Int32 := (jv_rd (σ.1 7) 11 0 (10 : Int32))
set_option maxRecDepth 100000 in
set_option maxHeartbeats 4000000 in
theorem ok_X3_usableTotal {G : jv_G} {l : Launch} {σ : jv_S} {r : Int32} (h : f_X3_usableTotal σ = r) : jv_Cn G l 2 M_X3_usableTotal [.ref 1] σ (some (.int r)) σ := by
  refine jv_of (L0 := [some (.ref 1)]) (by decide +kernel) (Nat.le_of_ble_eq_true rfl) rfl (jv_okI _) (fun E e1 e2 hE hret => ?_)
  unfold f_X3_usableTotal at h
  refine jv_aload_n (x := 1) (pc' := 1) hE dX3_usableTotal_0 rfl 0 rfl rfl ?_
  refine jv_get (v := .ref 7) (pc' := 4) hE dX3_usableTotal_1 rfl lF_X3_27 rfl rfl rfl ?_
  refine jv_bipush (v := (10 : Int32)) (pc' := 6) hE dX3_usableTotal_4 rfl (by decide) ?_
  refine jv_callN (pc' := 9) (o := some (.int (jv_rd (σ.1 7) 11 0 (10 : Int32)))) (σ' := σ) hE dX3_usableTotal_6 rfl lN_X3_64 (ok_X7_at (n := 11) (by decide) rfl rfl) rfl (by decide) rfl (Nat.le_of_ble_eq_true rfl) ?_
  show jv_V E 9 [some (.ref 1)] [.int (jv_rd (σ.1 7) 11 0 (10 : Int32))] σ
  cases h
  exact hret _ _ dX3_usableTotal_9
noncomputable def f_X3_outEdge (σ : jv_S) (p1 : Int32) : Int32 := (jv_rd (σ.1 6) 24 0 p1)
set_option maxRecDepth 100000 in
set_option maxHeartbeats 4000000 in
theorem ok_X3_outEdge {G : jv_G} {l : Launch} {σ : jv_S} {p1 : Int32} {r : Int32} (h : f_X3_outEdge σ p1 = r) : jv_Cn G l 2 M_X3_outEdge [.ref 1, .int p1] σ (some (.int r)) σ := by
  refine jv_of (L0 := [some (.ref 1), some (.int p1)]) (by decide +kernel) (Nat.le_of_ble_eq_true rfl) rfl (jv_okI _) (fun E e1 e2 hE hret => ?_)
  unfold f_X3_outEdge at h
  refine jv_aload_n (x := 1) (pc' := 1) hE dX3_outEdge_0 rfl 0 rfl rfl ?_
  refine jv_get (v := .ref 6) (pc' := 4) hE dX3_outEdge_1 rfl lF_X3_24 rfl rfl rfl ?_
  refine jv_iload_n (x := p1) (pc' := 5) hE dX3_outEdge_4 rfl 1 rfl rfl ?_
  refine jv_callN (pc' := 8) (o := some (.int (jv_rd (σ.1 6) 24 0 p1))) (σ' := σ) hE dX3_outEdge_5 rfl lN_X3_64 (ok_X7_at (n := 24) (by decide) rfl rfl) rfl (by decide) rfl (Nat.le_of_ble_eq_true rfl) ?_
  show jv_V E 8 [some (.ref 1), some (.int p1)] [.int (jv_rd (σ.1 6) 24 0 p1)] σ
  cases h
  exact hret _ _ dX3_outEdge_8
noncomputable def f_X3_outStart (σ : jv_S) (p1 : Int32) : Int32 := (jv_rd (σ.1 7) 11 0 p1)
set_option maxRecDepth 100000 in
set_option maxHeartbeats 4000000 in
theorem ok_X3_outStart {G : jv_G} {l : Launch} {σ : jv_S} {p1 : Int32} {r : Int32} (h : f_X3_outStart σ p1 = r) : jv_Cn G l 2 M_X3_outStart [.ref 1, .int p1] σ (some (.int r)) σ := by
  refine jv_of (L0 := [some (.ref 1), some (.int p1)]) (by decide +kernel) (Nat.le_of_ble_eq_true rfl) rfl (jv_okI _) (fun E e1 e2 hE hret => ?_)
  unfold f_X3_outStart at h
  refine jv_aload_n (x := 1) (pc' := 1) hE dX3_outStart_0 rfl 0 rfl rfl ?_
  refine jv_get (v := .ref 7) (pc' := 4) hE dX3_outStart_1 rfl lF_X3_27 rfl rfl rfl ?_
  refine jv_iload_n (x := p1) (pc' := 5) hE dX3_outStart_4 rfl 1 rfl rfl ?_
  refine jv_callN (pc' := 8) (o := some (.int (jv_rd (σ.1 7) 11 0 p1))) (σ' := σ) hE dX3_outStart_5 rfl lN_X3_64 (ok_X7_at (n := 11) (by decide) rfl rfl) rfl (by decide) rfl (Nat.le_of_ble_eq_true rfl) ?_
  show jv_V E 8 [some (.ref 1), some (.int p1)] [.int (jv_rd (σ.1 7) 11 0 p1)] σ
  cases h
  exact hret _ _ dX3_outStart_8
noncomputable def f_X3_outEnd (σ : jv_S) (p1 : Int32) : Int32 := (jv_rd (σ.1 7) 11 0 (p1 + (1 : Int32)))
set_option maxRecDepth 100000 in
set_option maxHeartbeats 4000000 in
theorem ok_X3_outEnd {G : jv_G} {l : Launch} {σ : jv_S} {p1 : Int32} {r : Int32} (h : f_X3_outEnd σ p1 = r) : jv_Cn G l 2 M_X3_outEnd [.ref 1, .int p1] σ (some (.int r)) σ := by
  refine jv_of (L0 := [some (.ref 1), some (.int p1)]) (by decide +kernel) (Nat.le_of_ble_eq_true rfl) rfl (jv_okI _) (fun E e1 e2 hE hret => ?_)
  unfold f_X3_outEnd at h
  refine jv_aload_n (x := 1) (pc' := 1) hE dX3_outEnd_0 rfl 0 rfl rfl ?_
  refine jv_get (v := .ref 7) (pc' := 4) hE dX3_outEnd_1 rfl lF_X3_27 rfl rfl rfl ?_
  refine jv_iload_n (x := p1) (pc' := 5) hE dX3_outEnd_4 rfl 1 rfl rfl ?_
  refine jv_iconst (v := (1 : Int32)) (pc' := 6) hE dX3_outEnd_5 rfl (by decide) ?_
  refine jv_iadd (x := p1) (y := (1 : Int32)) (pc' := 7) hE dX3_outEnd_6 rfl ?_
  refine jv_callN (pc' := 10) (o := some (.int (jv_rd (σ.1 7) 11 0 (p1 + (1 : Int32))))) (σ' := σ) hE dX3_outEnd_7 rfl lN_X3_64 (ok_X7_at (n := 11) (by decide) rfl rfl) rfl (by decide) rfl (Nat.le_of_ble_eq_true rfl) ?_
  show jv_V E 10 [some (.ref 1), some (.int p1)] [.int (jv_rd (σ.1 7) 11 0 (p1 + (1 : Int32)))] σ
  cases h
  exact hret _ _ dX3_outEnd_10
