noncomputable def f_X0_lengthFrom (σ : jv_S) (p1 : Int32) : Int32 := jv_lt (if p1 = (-1 : Int32) then ((1000000000 : Int32)) else ((jv_rd (σ.1 33) 24 0 p1))) (fun q2 => q2)
set_option maxRecDepth 100000 in
set_option maxHeartbeats 4000000 in
theorem ok_X0_lengthFrom {G : jv_G} {l : Launch} {σ : jv_S} {p1 : Int32} {r : Int32} (h : f_X0_lengthFrom σ p1 = r) : jv_Cn G l 2 M_X0_lengthFrom [.ref 32, .int p1] σ (some (.int r)) σ := by
  refine jv_of (L0 := [some (.ref 32), some (.int p1)]) (by decide +kernel) (Nat.le_of_ble_eq_true rfl) rfl (jv_okI _) (fun E e1 e2 hE hret => ?_)
  unfold f_X0_lengthFrom at h
  refine jv_iload_n (x := p1) (pc' := 1) hE dX0_lengthFrom_0 rfl 1 rfl rfl ?_
  refine jv_iconst (v := (-1 : Int32)) (pc' := 2) hE dX0_lengthFrom_1 rfl (by decide) ?_
  obtain ⟨q2, hq2, h⟩ := jv_lt_eq h
  have kq2 : jv_V E 18 [none, none] [.int q2] σ := by
    cases h
    exact hret _ _ dX0_lengthFrom_18
  refine jv_icmp_ne (x := p1) (y := (-1 : Int32)) (tgt := 10) (pc' := 5) hE dX0_lengthFrom_2 (by decide) rfl (fun c1 => ?_) (fun c1 => ?_)
  · rw [if_neg c1] at hq2
    refine jv_aload_n (x := 32) (pc' := 11) hE dX0_lengthFrom_10 rfl 0 rfl rfl ?_
    refine jv_get (v := .ref 33) (pc' := 14) hE dX0_lengthFrom_11 rfl lF_X0_9 rfl rfl rfl ?_
    refine jv_iload_n (x := p1) (pc' := 15) hE dX0_lengthFrom_14 rfl 1 rfl rfl ?_
    refine jv_callN (pc' := 18) (o := some (.int (jv_rd (σ.1 33) 24 0 p1))) (σ' := σ) hE dX0_lengthFrom_15 rfl lN_X0_68 (ok_X7_at (n := 24) (by decide) rfl rfl) rfl (by decide) rfl (Nat.le_of_ble_eq_true rfl) ?_
    show jv_V E 18 [some (.ref 32), some (.int p1)] [.int (jv_rd (σ.1 33) 24 0 p1)] σ
    cases hq2
    exact jv_forget [false, false] kq2
  · rw [if_pos c1] at hq2
    refine jv_ldc (v := (1000000000 : Int32)) (pc' := 7) hE dX0_lengthFrom_5 rfl lC_X0_47 ?_
    refine jv_goto (tgt := 18) hE dX0_lengthFrom_7 (by decide) ?_
    cases hq2
    exact jv_forget [false, false] kq2
noncomputable def f_X0_bestAfter_lp16 (a1 : Int32) (a2 : Int32) : Nat → Int32 → Int32 → Int32 → jv_S → Option (Int32 × Int32 × Int32)
  | 0, _, _, _, _ => none
  | n + 1, v3, v4, v5, σ => if (f_X3_outEnd σ a2) ≤ v5 then (some (v3, v4, v5)) else (jv_lt (if a1 = (-1 : Int32) then (false) else (if (f_X3_isForbidden σ a1 (f_X3_outEdge σ v5)) = true then (true) else (false))) (fun q3 => jv_lt (if q3 = true then ((v3, v4)) else (if v4 ≤ (f_X0_lengthFrom σ (f_X3_outEdge σ v5)) then ((v3, v4)) else (((f_X3_outEdge σ v5), (f_X0_lengthFrom σ (f_X3_outEdge σ v5)))))) (fun q6 => f_X0_bestAfter_lp16 a1 a2 n q6.1 q6.2 (v5 + (1 : Int32)) σ)))
noncomputable def f_X0_bestAfter (σ : jv_S) (p1 : Int32) (p2 : Int32) : Option (Int32) := jv_bd (f_X0_bestAfter_lp16 p1 p2 jv_fuel (-1 : Int32) (1000000000 : Int32) (f_X3_outStart σ p2) σ) (fun q8 => some q8.1)
set_option maxRecDepth 100000 in
set_option maxHeartbeats 4000000 in
theorem lp_X0_bestAfter_16 {σ : jv_S} {a1 : Int32} {a2 : Int32} {E : jv_E} (hE : jv_Cx E RX0 cX0_bestAfter 8 3) : ∀ (n : Nat) (v3 : Int32) (v4 : Int32) (v5 : Int32)  (q : Int32 × Int32 × Int32), f_X0_bestAfter_lp16 a1 a2 n v3 v4 v5 σ = some q → (jv_V E 98 [none, none, none, some (.int q.1), none, none, none, none] [] σ) → jv_V E 16 [some (.ref 32), some (.int a1), some (.int a2), some (.int v3), some (.int v4), some (.int v5), none, none] [] σ := by
  intro n
  induction n with
  | zero =>
    intro v3 v4 v5 q h
    rw [f_X0_bestAfter_lp16] at h
    cases h
  | succ n ih =>
    intro v3 v4 v5 q h hk
    rw [f_X0_bestAfter_lp16] at h
    refine jv_iload (x := v5) (pc' := 18) hE dX0_bestAfter_16 rfl rfl ?_
    refine jv_aload_n (x := 32) (pc' := 19) hE dX0_bestAfter_18 rfl 0 rfl rfl ?_
    refine jv_get (v := .ref 1) (pc' := 22) hE dX0_bestAfter_19 rfl lF_X0_18 rfl rfl rfl ?_
    refine jv_iload_n (x := a2) (pc' := 23) hE dX0_bestAfter_22 rfl 2 rfl rfl ?_
    refine jv_callV (pc' := 26) (o := some (.int (f_X3_outEnd σ a2))) (σ' := σ) hE dX0_bestAfter_23 rfl lV_X0_75 (ok_X3_outEnd rfl) rfl rfl rfl (by decide) rfl (Nat.le_of_ble_eq_true rfl) ?_
    show jv_V E 26 [some (.ref 32), some (.int a1), some (.int a2), some (.int v3), some (.int v4), some (.int v5), none, none] [.int (f_X3_outEnd σ a2), .int v5] σ
    refine jv_icmp_ge (x := v5) (y := (f_X3_outEnd σ a2)) (tgt := 98) (pc' := 29) hE dX0_bestAfter_26 (by decide) rfl (fun c1 => ?_) (fun c1 => ?_)
    · rw [if_pos c1] at h
      cases h
      exact jv_forget [false, false, false, true, false, false, true, true] hk
    · rw [if_neg c1] at h
      refine jv_aload_n (x := 32) (pc' := 30) hE dX0_bestAfter_29 rfl 0 rfl rfl ?_
      refine jv_get (v := .ref 1) (pc' := 33) hE dX0_bestAfter_30 rfl lF_X0_18 rfl rfl rfl ?_
      refine jv_iload (x := v5) (pc' := 35) hE dX0_bestAfter_33 rfl rfl ?_
      refine jv_callV (pc' := 38) (o := some (.int (f_X3_outEdge σ v5))) (σ' := σ) hE dX0_bestAfter_35 rfl lV_X0_62 (ok_X3_outEdge rfl) rfl rfl rfl (by decide) rfl (Nat.le_of_ble_eq_true rfl) ?_
      show jv_V E 38 [some (.ref 32), some (.int a1), some (.int a2), some (.int v3), some (.int v4), some (.int v5), none, none] [.int (f_X3_outEdge σ v5)] σ
      refine jv_istore (x := (f_X3_outEdge σ v5)) (L' := [some (.ref 32), some (.int a1), some (.int a2), some (.int v3), some (.int v4), some (.int v5), some (.int (f_X3_outEdge σ v5)), none]) (pc' := 40) hE dX0_bestAfter_38 rfl (by decide) rfl rfl ?_
      refine jv_iload_n (x := a1) (pc' := 41) hE dX0_bestAfter_40 rfl 1 rfl rfl ?_
      refine jv_iconst (v := (-1 : Int32)) (pc' := 42) hE dX0_bestAfter_41 rfl (by decide) ?_
      obtain ⟨q3, hq3, h⟩ := jv_lt_eq h
      have kq3 : jv_V E 63 [some (.ref 32), some (.int a1), some (.int a2), some (.int v3), some (.int v4), some (.int v5), some (.int (f_X3_outEdge σ v5)), none] [.int (jv_b q3)] σ := by
        refine jv_istore (x := (jv_b q3)) (L' := [some (.ref 32), some (.int a1), some (.int a2), some (.int v3), some (.int v4), some (.int v5), some (.int (f_X3_outEdge σ v5)), some (.int (jv_b q3))]) (pc' := 65) hE dX0_bestAfter_63 rfl (by decide) rfl rfl ?_
        refine jv_iload (x := (jv_b q3)) (pc' := 67) hE dX0_bestAfter_65 rfl rfl ?_
        obtain ⟨q6, hq6, h⟩ := jv_lt_eq h
        have kq6 : jv_V E 92 [some (.ref 32), some (.int a1), some (.int a2), some (.int q6.1), some (.int q6.2), some (.int v5), none, none] [] σ := by
          refine jv_iinc (x := v5) (v := (v5 + (1 : Int32))) (L' := [some (.ref 32), some (.int a1), some (.int a2), some (.int q6.1), some (.int q6.2), some (.int (v5 + (1 : Int32))), none, none]) (pc' := 95) hE dX0_bestAfter_92 rfl rfl rfl (by decide) rfl rfl ?_
          refine jv_goto (tgt := 16) hE dX0_bestAfter_95 (by decide) ?_
          exact jv_forget [true, true, true, true, true, true, true, true] (ih q6.1 q6.2 (v5 + (1 : Int32)) _ h hk)
        refine jv_if_ne (x := (jv_b q3)) (tgt := 92) (pc' := 70) hE dX0_bestAfter_67 (by decide) rfl (fun c5 => ?_) (fun c5 => ?_)
        · have c5 := jv_b1 c5
          rw [if_pos c5] at hq6
          cases hq6
          exact jv_forget [true, true, true, true, true, true, false, false] kq6
        · have c5 := jv_b0 c5
          rw [if_neg c5] at hq6
          refine jv_aload_n (x := 32) (pc' := 71) hE dX0_bestAfter_70 rfl 0 rfl rfl ?_
          refine jv_iload (x := (f_X3_outEdge σ v5)) (pc' := 73) hE dX0_bestAfter_71 rfl rfl ?_
          refine jv_callV (pc' := 76) (o := some (.int (f_X0_lengthFrom σ (f_X3_outEdge σ v5)))) (σ' := σ) hE dX0_bestAfter_73 rfl lV_X0_34 (ok_X0_lengthFrom rfl) rfl rfl rfl (by decide) rfl (Nat.le_of_ble_eq_true rfl) ?_
          show jv_V E 76 [some (.ref 32), some (.int a1), some (.int a2), some (.int v3), some (.int v4), some (.int v5), some (.int (f_X3_outEdge σ v5)), some (.int (jv_b q3))] [.int (f_X0_lengthFrom σ (f_X3_outEdge σ v5))] σ
          refine jv_iload (x := v4) (pc' := 78) hE dX0_bestAfter_76 rfl rfl ?_
          refine jv_icmp_ge (x := (f_X0_lengthFrom σ (f_X3_outEdge σ v5))) (y := v4) (tgt := 92) (pc' := 81) hE dX0_bestAfter_78 (by decide) rfl (fun c7 => ?_) (fun c7 => ?_)
          · rw [if_pos c7] at hq6
            cases hq6
            exact jv_forget [true, true, true, true, true, true, false, false] kq6
          · rw [if_neg c7] at hq6
            refine jv_aload_n (x := 32) (pc' := 82) hE dX0_bestAfter_81 rfl 0 rfl rfl ?_
            refine jv_iload (x := (f_X3_outEdge σ v5)) (pc' := 84) hE dX0_bestAfter_82 rfl rfl ?_
            refine jv_callV (pc' := 87) (o := some (.int (f_X0_lengthFrom σ (f_X3_outEdge σ v5)))) (σ' := σ) hE dX0_bestAfter_84 rfl lV_X0_34 (ok_X0_lengthFrom rfl) rfl rfl rfl (by decide) rfl (Nat.le_of_ble_eq_true rfl) ?_
            show jv_V E 87 [some (.ref 32), some (.int a1), some (.int a2), some (.int v3), some (.int v4), some (.int v5), some (.int (f_X3_outEdge σ v5)), some (.int (jv_b q3))] [.int (f_X0_lengthFrom σ (f_X3_outEdge σ v5))] σ
            refine jv_istore (x := (f_X0_lengthFrom σ (f_X3_outEdge σ v5))) (L' := [some (.ref 32), some (.int a1), some (.int a2), some (.int v3), some (.int (f_X0_lengthFrom σ (f_X3_outEdge σ v5))), some (.int v5), some (.int (f_X3_outEdge σ v5)), some (.int (jv_b q3))]) (pc' := 89) hE dX0_bestAfter_87 rfl (by decide) rfl rfl ?_
            refine jv_iload (x := (f_X3_outEdge σ v5)) (pc' := 91) hE dX0_bestAfter_89 rfl rfl ?_
            refine jv_istore_n (x := (f_X3_outEdge σ v5)) (L' := [some (.ref 32), some (.int a1), some (.int a2), some (.int (f_X3_outEdge σ v5)), some (.int (f_X0_lengthFrom σ (f_X3_outEdge σ v5))), some (.int v5), some (.int (f_X3_outEdge σ v5)), some (.int (jv_b q3))]) (pc' := 92) hE dX0_bestAfter_91 rfl 3 rfl (by decide) rfl rfl ?_
            cases hq6
            exact jv_forget [true, true, true, true, true, true, false, false] kq6
      refine jv_icmp_eq (x := a1) (y := (-1 : Int32)) (tgt := 62) (pc' := 45) hE dX0_bestAfter_42 (by decide) rfl (fun c2 => ?_) (fun c2 => ?_)
      · rw [if_pos c2] at hq3
        refine jv_iconst (v := (0 : Int32)) (pc' := 63) hE dX0_bestAfter_62 rfl (by decide) ?_
        cases hq3
        exact jv_forget [true, true, true, true, true, true, true, true] kq3
      · rw [if_neg c2] at hq3
        refine jv_aload_n (x := 32) (pc' := 46) hE dX0_bestAfter_45 rfl 0 rfl rfl ?_
        refine jv_get (v := .ref 1) (pc' := 49) hE dX0_bestAfter_46 rfl lF_X0_18 rfl rfl rfl ?_
        refine jv_iload_n (x := a1) (pc' := 50) hE dX0_bestAfter_49 rfl 1 rfl rfl ?_
        refine jv_iload (x := (f_X3_outEdge σ v5)) (pc' := 52) hE dX0_bestAfter_50 rfl rfl ?_
        refine jv_callV (pc' := 55) (o := some (.int (jv_b (f_X3_isForbidden σ a1 (f_X3_outEdge σ v5))))) (σ' := σ) hE dX0_bestAfter_52 rfl lV_X0_78 (ok_X3_isForbidden rfl) rfl rfl rfl (by decide) rfl (Nat.le_of_ble_eq_true rfl) ?_
        show jv_V E 55 [some (.ref 32), some (.int a1), some (.int a2), some (.int v3), some (.int v4), some (.int v5), some (.int (f_X3_outEdge σ v5)), none] [.int (jv_b (f_X3_isForbidden σ a1 (f_X3_outEdge σ v5)))] σ
        refine jv_if_eq (x := (jv_b (f_X3_isForbidden σ a1 (f_X3_outEdge σ v5)))) (tgt := 62) (pc' := 58) hE dX0_bestAfter_55 (by decide) rfl (fun c4 => ?_) (fun c4 => ?_)
        · have c4 := jv_b0 c4
          rw [if_neg c4] at hq3
          refine jv_iconst (v := (0 : Int32)) (pc' := 63) hE dX0_bestAfter_62 rfl (by decide) ?_
          cases hq3
          exact jv_forget [true, true, true, true, true, true, true, true] kq3
        · have c4 := jv_b1 c4
          rw [if_pos c4] at hq3
          refine jv_iconst (v := (1 : Int32)) (pc' := 59) hE dX0_bestAfter_58 rfl (by decide) ?_
          refine jv_goto (tgt := 63) hE dX0_bestAfter_59 (by decide) ?_
          cases hq3
          exact jv_forget [true, true, true, true, true, true, true, true] kq3
set_option maxRecDepth 100000 in
set_option maxHeartbeats 4000000 in
theorem ok_X0_bestAfter {G : jv_G} {l : Launch} {σ : jv_S} {p1 : Int32} {p2 : Int32} {r : Int32} (h : f_X0_bestAfter σ p1 p2 = some r) : jv_Cn G l 3 M_X0_bestAfter [.ref 32, .int p1, .int p2] σ (some (.int r)) σ := by
  refine jv_of (L0 := [some (.ref 32), some (.int p1), some (.int p2), none, none, none, none, none]) (by decide +kernel) (Nat.le_of_ble_eq_true rfl) rfl (jv_okI _) (fun E e1 e2 hE hret => ?_)
  unfold f_X0_bestAfter at h
  refine jv_iconst (v := (-1 : Int32)) (pc' := 1) hE dX0_bestAfter_0 rfl (by decide) ?_
  refine jv_istore_n (x := (-1 : Int32)) (L' := [some (.ref 32), some (.int p1), some (.int p2), some (.int (-1 : Int32)), none, none, none, none]) (pc' := 2) hE dX0_bestAfter_1 rfl 3 rfl (by decide) rfl rfl ?_
  refine jv_ldc (v := (1000000000 : Int32)) (pc' := 4) hE dX0_bestAfter_2 rfl lC_X0_47 ?_
  refine jv_istore (x := (1000000000 : Int32)) (L' := [some (.ref 32), some (.int p1), some (.int p2), some (.int (-1 : Int32)), some (.int (1000000000 : Int32)), none, none, none]) (pc' := 6) hE dX0_bestAfter_4 rfl (by decide) rfl rfl ?_
  refine jv_aload_n (x := 32) (pc' := 7) hE dX0_bestAfter_6 rfl 0 rfl rfl ?_
  refine jv_get (v := .ref 1) (pc' := 10) hE dX0_bestAfter_7 rfl lF_X0_18 rfl rfl rfl ?_
  refine jv_iload_n (x := p2) (pc' := 11) hE dX0_bestAfter_10 rfl 2 rfl rfl ?_
  refine jv_callV (pc' := 14) (o := some (.int (f_X3_outStart σ p2))) (σ' := σ) hE dX0_bestAfter_11 rfl lV_X0_72 (ok_X3_outStart rfl) rfl rfl rfl (by decide) rfl (Nat.le_of_ble_eq_true rfl) ?_
  show jv_V E 14 [some (.ref 32), some (.int p1), some (.int p2), some (.int (-1 : Int32)), some (.int (1000000000 : Int32)), none, none, none] [.int (f_X3_outStart σ p2)] σ
  refine jv_istore (x := (f_X3_outStart σ p2)) (L' := [some (.ref 32), some (.int p1), some (.int p2), some (.int (-1 : Int32)), some (.int (1000000000 : Int32)), some (.int (f_X3_outStart σ p2)), none, none]) (pc' := 16) hE dX0_bestAfter_14 rfl (by decide) rfl rfl ?_
  obtain ⟨q8, hq8, h⟩ := jv_bd_some h
  refine jv_forget [true, true, true, true, true, true, true, true] (lp_X0_bestAfter_16 hE jv_fuel (-1 : Int32) (1000000000 : Int32) (f_X3_outStart σ p2) _ hq8 ?_)
  refine jv_iload_n (x := q8.1) (pc' := 99) hE dX0_bestAfter_98 rfl 3 rfl rfl ?_
  cases h
  exact hret _ _ dX0_bestAfter_99
noncomputable def f_X0_shortenAll_lp4 (a1 : Int32) : Nat → Bool → Int32 → jv_S → Option (Bool × Int32 × jv_S)
  | 0, _, _, _ => none
  | n + 1, v2, v3, σ => if (f_X3_usableTotal σ) ≤ v3 then (some (v2, v3, σ)) else (jv_bd (if (f_X3_headOf σ (f_X3_outEdge σ v3)) = a1 then (some (0 : Int32)) else (jv_bd (f_X0_bestAfter σ (f_X3_outEdge σ v3) (f_X3_headOf σ (f_X3_outEdge σ v3))) (fun q4 => some (f_X0_lengthFrom σ q4)))) (fun q3 => jv_lt (if (f_X0_lengthFrom σ (f_X3_outEdge σ v3)) ≤ ((f_X3_lengthOf σ (f_X3_outEdge σ v3)) + q3) then ((v2, σ)) else ((true, (jv_wr σ 33 24 (f_X3_outEdge σ v3) ((f_X3_lengthOf σ (f_X3_outEdge σ v3)) + q3))))) (fun q6 => f_X0_shortenAll_lp4 a1 n q6.1 (v3 + (1 : Int32)) q6.2)))
noncomputable def f_X0_shortenAll (σ : jv_S) (p1 : Int32) : Option (Bool × jv_S) := jv_bd (f_X0_shortenAll_lp4 p1 jv_fuel false (0 : Int32) σ) (fun q7 => some (q7.1, q7.2.2))
set_option maxRecDepth 100000 in
set_option maxHeartbeats 4000000 in
theorem lp_X0_shortenAll_4 {a1 : Int32} {E : jv_E} (hE : jv_Cx E RX0 cX0_shortenAll 8 4) : ∀ (n : Nat) (v2 : Bool) (v3 : Int32) (σ : jv_S) (q : Bool × Int32 × jv_S), f_X0_shortenAll_lp4 a1 n v2 v3 σ = some q → (jv_V E 104 [none, none, some (.int (jv_b q.1)), none, none, none, none, none] [] q.2.2) → jv_V E 4 [some (.ref 32), some (.int a1), some (.int (jv_b v2)), some (.int v3), none, none, none, none] [] σ := by
  intro n
  induction n with
  | zero =>
    intro v2 v3 σ q h
    rw [f_X0_shortenAll_lp4] at h
    cases h
  | succ n ih =>
    intro v2 v3 σ q h hk
    rw [f_X0_shortenAll_lp4] at h
    refine jv_iload_n (x := v3) (pc' := 5) hE dX0_shortenAll_4 rfl 3 rfl rfl ?_
    refine jv_aload_n (x := 32) (pc' := 6) hE dX0_shortenAll_5 rfl 0 rfl rfl ?_
    refine jv_get (v := .ref 1) (pc' := 9) hE dX0_shortenAll_6 rfl lF_X0_18 rfl rfl rfl ?_
    refine jv_callV (pc' := 12) (o := some (.int (f_X3_usableTotal σ))) (σ' := σ) hE dX0_shortenAll_9 rfl lV_X0_58 (ok_X3_usableTotal rfl) rfl rfl rfl (by decide) rfl (Nat.le_of_ble_eq_true rfl) ?_
    show jv_V E 12 [some (.ref 32), some (.int a1), some (.int (jv_b v2)), some (.int v3), none, none, none, none] [.int (f_X3_usableTotal σ), .int v3] σ
    refine jv_icmp_ge (x := v3) (y := (f_X3_usableTotal σ)) (tgt := 104) (pc' := 15) hE dX0_shortenAll_12 (by decide) rfl (fun c1 => ?_) (fun c1 => ?_)
    · rw [if_pos c1] at h
      cases h
      exact jv_forget [false, false, true, false, true, true, true, true] hk
    · rw [if_neg c1] at h
      refine jv_aload_n (x := 32) (pc' := 16) hE dX0_shortenAll_15 rfl 0 rfl rfl ?_
      refine jv_get (v := .ref 1) (pc' := 19) hE dX0_shortenAll_16 rfl lF_X0_18 rfl rfl rfl ?_
      refine jv_iload_n (x := v3) (pc' := 20) hE dX0_shortenAll_19 rfl 3 rfl rfl ?_
      refine jv_callV (pc' := 23) (o := some (.int (f_X3_outEdge σ v3))) (σ' := σ) hE dX0_shortenAll_20 rfl lV_X0_62 (ok_X3_outEdge rfl) rfl rfl rfl (by decide) rfl (Nat.le_of_ble_eq_true rfl) ?_
      show jv_V E 23 [some (.ref 32), some (.int a1), some (.int (jv_b v2)), some (.int v3), none, none, none, none] [.int (f_X3_outEdge σ v3)] σ
      refine jv_istore (x := (f_X3_outEdge σ v3)) (L' := [some (.ref 32), some (.int a1), some (.int (jv_b v2)), some (.int v3), some (.int (f_X3_outEdge σ v3)), none, none, none]) (pc' := 25) hE dX0_shortenAll_23 rfl (by decide) rfl rfl ?_
      refine jv_aload_n (x := 32) (pc' := 26) hE dX0_shortenAll_25 rfl 0 rfl rfl ?_
      refine jv_get (v := .ref 1) (pc' := 29) hE dX0_shortenAll_26 rfl lF_X0_18 rfl rfl rfl ?_
      refine jv_iload (x := (f_X3_outEdge σ v3)) (pc' := 31) hE dX0_shortenAll_29 rfl rfl ?_
      refine jv_callV (pc' := 34) (o := some (.int (f_X3_headOf σ (f_X3_outEdge σ v3)))) (σ' := σ) hE dX0_shortenAll_31 rfl lV_X0_42 (ok_X3_headOf rfl) rfl rfl rfl (by decide) rfl (Nat.le_of_ble_eq_true rfl) ?_
      show jv_V E 34 [some (.ref 32), some (.int a1), some (.int (jv_b v2)), some (.int v3), some (.int (f_X3_outEdge σ v3)), none, none, none] [.int (f_X3_headOf σ (f_X3_outEdge σ v3))] σ
      refine jv_istore (x := (f_X3_headOf σ (f_X3_outEdge σ v3))) (L' := [some (.ref 32), some (.int a1), some (.int (jv_b v2)), some (.int v3), some (.int (f_X3_outEdge σ v3)), some (.int (f_X3_headOf σ (f_X3_outEdge σ v3))), none, none]) (pc' := 36) hE dX0_shortenAll_34 rfl (by decide) rfl rfl ?_
      refine jv_iload (x := (f_X3_headOf σ (f_X3_outEdge σ v3))) (pc' := 38) hE dX0_shortenAll_36 rfl rfl ?_
      refine jv_iload_n (x := a1) (pc' := 39) hE dX0_shortenAll_38 rfl 1 rfl rfl ?_
      obtain ⟨q3, hq3, h⟩ := jv_bd_some h
      have kq3 : jv_V E 58 [some (.ref 32), some (.int a1), some (.int (jv_b v2)), some (.int v3), some (.int (f_X3_outEdge σ v3)), none, none, none] [.int q3] σ := by
        refine jv_istore (x := q3) (L' := [some (.ref 32), some (.int a1), some (.int (jv_b v2)), some (.int v3), some (.int (f_X3_outEdge σ v3)), none, some (.int q3), none]) (pc' := 60) hE dX0_shortenAll_58 rfl (by decide) rfl rfl ?_
        refine jv_aload_n (x := 32) (pc' := 61) hE dX0_shortenAll_60 rfl 0 rfl rfl ?_
        refine jv_get (v := .ref 1) (pc' := 64) hE dX0_shortenAll_61 rfl lF_X0_18 rfl rfl rfl ?_
        refine jv_iload (x := (f_X3_outEdge σ v3)) (pc' := 66) hE dX0_shortenAll_64 rfl rfl ?_
        refine jv_callV (pc' := 69) (o := some (.int (f_X3_lengthOf σ (f_X3_outEdge σ v3)))) (σ' := σ) hE dX0_shortenAll_66 rfl lV_X0_65 (ok_X3_lengthOf rfl) rfl rfl rfl (by decide) rfl (Nat.le_of_ble_eq_true rfl) ?_
        show jv_V E 69 [some (.ref 32), some (.int a1), some (.int (jv_b v2)), some (.int v3), some (.int (f_X3_outEdge σ v3)), none, some (.int q3), none] [.int (f_X3_lengthOf σ (f_X3_outEdge σ v3))] σ
        refine jv_iload (x := q3) (pc' := 71) hE dX0_shortenAll_69 rfl rfl ?_
        refine jv_iadd (x := (f_X3_lengthOf σ (f_X3_outEdge σ v3))) (y := q3) (pc' := 72) hE dX0_shortenAll_71 rfl ?_
        refine jv_istore (x := ((f_X3_lengthOf σ (f_X3_outEdge σ v3)) + q3)) (L' := [some (.ref 32), some (.int a1), some (.int (jv_b v2)), some (.int v3), some (.int (f_X3_outEdge σ v3)), none, some (.int q3), some (.int ((f_X3_lengthOf σ (f_X3_outEdge σ v3)) + q3))]) (pc' := 74) hE dX0_shortenAll_72 rfl (by decide) rfl rfl ?_
        refine jv_iload (x := ((f_X3_lengthOf σ (f_X3_outEdge σ v3)) + q3)) (pc' := 76) hE dX0_shortenAll_74 rfl rfl ?_
        refine jv_aload_n (x := 32) (pc' := 77) hE dX0_shortenAll_76 rfl 0 rfl rfl ?_
        refine jv_iload (x := (f_X3_outEdge σ v3)) (pc' := 79) hE dX0_shortenAll_77 rfl rfl ?_
        refine jv_callV (pc' := 82) (o := some (.int (f_X0_lengthFrom σ (f_X3_outEdge σ v3)))) (σ' := σ) hE dX0_shortenAll_79 rfl lV_X0_34 (ok_X0_lengthFrom rfl) rfl rfl rfl (by decide) rfl (Nat.le_of_ble_eq_true rfl) ?_
        show jv_V E 82 [some (.ref 32), some (.int a1), some (.int (jv_b v2)), some (.int v3), some (.int (f_X3_outEdge σ v3)), none, some (.int q3), some (.int ((f_X3_lengthOf σ (f_X3_outEdge σ v3)) + q3))] [.int (f_X0_lengthFrom σ (f_X3_outEdge σ v3)), .int ((f_X3_lengthOf σ (f_X3_outEdge σ v3)) + q3)] σ
        obtain ⟨q6, hq6, h⟩ := jv_lt_eq h
        have kq6 : jv_V E 98 [some (.ref 32), some (.int a1), some (.int (jv_b q6.1)), some (.int v3), none, none, none, none] [] q6.2 := by
          refine jv_iinc (x := v3) (v := (v3 + (1 : Int32))) (L' := [some (.ref 32), some (.int a1), some (.int (jv_b q6.1)), some (.int (v3 + (1 : Int32))), none, none, none, none]) (pc' := 101) hE dX0_shortenAll_98 rfl rfl rfl (by decide) rfl rfl ?_
          refine jv_goto (tgt := 4) hE dX0_shortenAll_101 (by decide) ?_
          exact jv_forget [true, true, true, true, true, true, true, true] (ih q6.1 (v3 + (1 : Int32)) q6.2 _ h hk)
        refine jv_icmp_ge (x := ((f_X3_lengthOf σ (f_X3_outEdge σ v3)) + q3)) (y := (f_X0_lengthFrom σ (f_X3_outEdge σ v3))) (tgt := 98) (pc' := 85) hE dX0_shortenAll_82 (by decide) rfl (fun c5 => ?_) (fun c5 => ?_)
        · rw [if_pos c5] at hq6
          cases hq6
          exact jv_forget [true, true, true, true, false, true, false, false] kq6
        · rw [if_neg c5] at hq6
          refine jv_aload_n (x := 32) (pc' := 86) hE dX0_shortenAll_85 rfl 0 rfl rfl ?_
          refine jv_get (v := .ref 33) (pc' := 89) hE dX0_shortenAll_86 rfl lF_X0_9 rfl rfl rfl ?_
          refine jv_iload (x := (f_X3_outEdge σ v3)) (pc' := 91) hE dX0_shortenAll_89 rfl rfl ?_
          refine jv_iload (x := ((f_X3_lengthOf σ (f_X3_outEdge σ v3)) + q3)) (pc' := 93) hE dX0_shortenAll_91 rfl rfl ?_
          refine jv_callN (pc' := 96) (o := none) (σ' := (jv_wr σ 33 24 (f_X3_outEdge σ v3) ((f_X3_lengthOf σ (f_X3_outEdge σ v3)) + q3))) hE dX0_shortenAll_93 rfl lN_X0_38 (ok_X7_put (n := 24) (by decide) rfl rfl) rfl (by decide) rfl (Nat.le_of_ble_eq_true rfl) ?_
          show jv_V E 96 [some (.ref 32), some (.int a1), some (.int (jv_b v2)), some (.int v3), some (.int (f_X3_outEdge σ v3)), none, some (.int q3), some (.int ((f_X3_lengthOf σ (f_X3_outEdge σ v3)) + q3))] [] (jv_wr σ 33 24 (f_X3_outEdge σ v3) ((f_X3_lengthOf σ (f_X3_outEdge σ v3)) + q3))
          refine jv_iconst (v := (1 : Int32)) (pc' := 97) hE dX0_shortenAll_96 rfl (by decide) ?_
          refine jv_istore_n (x := (1 : Int32)) (L' := [some (.ref 32), some (.int a1), some (.int (1 : Int32)), some (.int v3), some (.int (f_X3_outEdge σ v3)), none, some (.int q3), some (.int ((f_X3_lengthOf σ (f_X3_outEdge σ v3)) + q3))]) (pc' := 98) hE dX0_shortenAll_97 rfl 2 rfl (by decide) rfl rfl ?_
          cases hq6
          exact jv_forget [true, true, true, true, false, true, false, false] kq6
      refine jv_icmp_ne (x := (f_X3_headOf σ (f_X3_outEdge σ v3))) (y := a1) (tgt := 46) (pc' := 42) hE dX0_shortenAll_39 (by decide) rfl (fun c2 => ?_) (fun c2 => ?_)
      · rw [if_neg c2] at hq3
        refine jv_aload_n (x := 32) (pc' := 47) hE dX0_shortenAll_46 rfl 0 rfl rfl ?_
        refine jv_aload_n (x := 32) (pc' := 48) hE dX0_shortenAll_47 rfl 0 rfl rfl ?_
        refine jv_iload (x := (f_X3_outEdge σ v3)) (pc' := 50) hE dX0_shortenAll_48 rfl rfl ?_
        refine jv_iload (x := (f_X3_headOf σ (f_X3_outEdge σ v3))) (pc' := 52) hE dX0_shortenAll_50 rfl rfl ?_
        obtain ⟨q4, hq4, hq3⟩ := jv_bd_some hq3
        refine jv_callV (pc' := 55) (o := some (.int q4)) (σ' := σ) hE dX0_shortenAll_52 rfl lV_X0_30 (ok_X0_bestAfter hq4) rfl rfl rfl (by decide) rfl (Nat.le_of_ble_eq_true rfl) ?_
        show jv_V E 55 [some (.ref 32), some (.int a1), some (.int (jv_b v2)), some (.int v3), some (.int (f_X3_outEdge σ v3)), some (.int (f_X3_headOf σ (f_X3_outEdge σ v3))), none, none] [.int q4, .ref 32] σ
        refine jv_callV (pc' := 58) (o := some (.int (f_X0_lengthFrom σ q4))) (σ' := σ) hE dX0_shortenAll_55 rfl lV_X0_34 (ok_X0_lengthFrom rfl) rfl rfl rfl (by decide) rfl (Nat.le_of_ble_eq_true rfl) ?_
        show jv_V E 58 [some (.ref 32), some (.int a1), some (.int (jv_b v2)), some (.int v3), some (.int (f_X3_outEdge σ v3)), some (.int (f_X3_headOf σ (f_X3_outEdge σ v3))), none, none] [.int (f_X0_lengthFrom σ q4)] σ
        cases hq3
        exact jv_forget [true, true, true, true, true, false, true, true] kq3
      · rw [if_pos c2] at hq3
        refine jv_iconst (v := (0 : Int32)) (pc' := 43) hE dX0_shortenAll_42 rfl (by decide) ?_
        refine jv_goto (tgt := 58) hE dX0_shortenAll_43 (by decide) ?_
        cases hq3
        exact jv_forget [true, true, true, true, true, false, true, true] kq3
set_option maxRecDepth 100000 in
set_option maxHeartbeats 4000000 in
theorem ok_X0_shortenAll {G : jv_G} {l : Launch} {σ : jv_S} {p1 : Int32} {r : Bool × jv_S} (h : f_X0_shortenAll σ p1 = some r) : jv_Cn G l 4 M_X0_shortenAll [.ref 32, .int p1] σ (some (.int (jv_b r.1))) r.2 := by
  refine jv_of (L0 := [some (.ref 32), some (.int p1), none, none, none, none, none, none]) (by decide +kernel) (Nat.le_of_ble_eq_true rfl) rfl (jv_okZ _) (fun E e1 e2 hE hret => ?_)
  unfold f_X0_shortenAll at h
  refine jv_iconst (v := (0 : Int32)) (pc' := 1) hE dX0_shortenAll_0 rfl (by decide) ?_
  refine jv_istore_n (x := (0 : Int32)) (L' := [some (.ref 32), some (.int p1), some (.int (0 : Int32)), none, none, none, none, none]) (pc' := 2) hE dX0_shortenAll_1 rfl 2 rfl (by decide) rfl rfl ?_
  refine jv_iconst (v := (0 : Int32)) (pc' := 3) hE dX0_shortenAll_2 rfl (by decide) ?_
  refine jv_istore_n (x := (0 : Int32)) (L' := [some (.ref 32), some (.int p1), some (.int (0 : Int32)), some (.int (0 : Int32)), none, none, none, none]) (pc' := 4) hE dX0_shortenAll_3 rfl 3 rfl (by decide) rfl rfl ?_
  obtain ⟨q7, hq7, h⟩ := jv_bd_some h
  refine jv_forget [true, true, true, true, true, true, true, true] (lp_X0_shortenAll_4 hE jv_fuel false (0 : Int32) σ _ hq7 ?_)
  refine jv_iload_n (x := (jv_b q7.1)) (pc' := 105) hE dX0_shortenAll_104 rfl 2 rfl rfl ?_
  cases h
  exact hret _ _ dX0_shortenAll_105
noncomputable def f_X0_measureTo_lp13 (a1 : Int32) : Nat → Bool → Int32 → jv_S → Option (Bool × Int32 × jv_S)
  | 0, _, _, _ => none
  | n + 1, v2, v3, σ => if (24 : Int32) ≤ v3 then (some (v2, v3, σ)) else (if v2 = true then (jv_bd (f_X0_shortenAll σ a1) (fun q3 => f_X0_measureTo_lp13 a1 n q3.1 (v3 + (1 : Int32)) q3.2)) else (some (v2, v3, σ)))
noncomputable def f_X0_measureTo (σ : jv_S) (p1 : Int32) : Option (jv_S) := jv_bd (f_X0_measureTo_lp13 p1 jv_fuel true (0 : Int32) (jv_fl σ 33 24 (1000000000 : Int32))) (fun q4 => some q4.2.2)
set_option maxRecDepth 100000 in
set_option maxHeartbeats 4000000 in
theorem lp_X0_measureTo_13 {a1 : Int32} {E : jv_E} (hE : jv_Cx E RX0 cX0_measureTo 4 5) : ∀ (n : Nat) (v2 : Bool) (v3 : Int32) (σ : jv_S) (q : Bool × Int32 × jv_S), f_X0_measureTo_lp13 a1 n v2 v3 σ = some q → (jv_V E 35 [none, none, none, none] [] q.2.2) → jv_V E 13 [some (.ref 32), some (.int a1), some (.int (jv_b v2)), some (.int v3)] [] σ := by
  intro n
  induction n with
  | zero =>
    intro v2 v3 σ q h
    rw [f_X0_measureTo_lp13] at h
    cases h
  | succ n ih =>
    intro v2 v3 σ q h hk
    rw [f_X0_measureTo_lp13] at h
    refine jv_iload_n (x := v3) (pc' := 14) hE dX0_measureTo_13 rfl 3 rfl rfl ?_
    refine jv_bipush (v := (24 : Int32)) (pc' := 16) hE dX0_measureTo_14 rfl (by decide) ?_
    refine jv_icmp_ge (x := v3) (y := (24 : Int32)) (tgt := 35) (pc' := 19) hE dX0_measureTo_16 (by decide) rfl (fun c1 => ?_) (fun c1 => ?_)
    · rw [if_pos c1] at h
      cases h
      exact jv_forget [false, false, false, false] hk
    · rw [if_neg c1] at h
      refine jv_iload_n (x := (jv_b v2)) (pc' := 20) hE dX0_measureTo_19 rfl 2 rfl rfl ?_
      refine jv_if_eq (x := (jv_b v2)) (tgt := 35) (pc' := 23) hE dX0_measureTo_20 (by decide) rfl (fun c2 => ?_) (fun c2 => ?_)
      · have c2 := jv_b0 c2
        rw [if_neg c2] at h
        cases h
        exact jv_forget [false, false, false, false] hk
      · have c2 := jv_b1 c2
        rw [if_pos c2] at h
        refine jv_aload_n (x := 32) (pc' := 24) hE dX0_measureTo_23 rfl 0 rfl rfl ?_
        refine jv_iload_n (x := a1) (pc' := 25) hE dX0_measureTo_24 rfl 1 rfl rfl ?_
        obtain ⟨q3, hq3, h⟩ := jv_bd_some h
        refine jv_callV (pc' := 28) (o := some (.int (jv_b q3.1))) (σ' := q3.2) hE dX0_measureTo_25 rfl lV_X0_54 (ok_X0_shortenAll hq3) rfl rfl rfl (by decide) rfl (Nat.le_of_ble_eq_true rfl) ?_
        show jv_V E 28 [some (.ref 32), some (.int a1), some (.int (jv_b v2)), some (.int v3)] [.int (jv_b q3.1)] q3.2
        refine jv_istore_n (x := (jv_b q3.1)) (L' := [some (.ref 32), some (.int a1), some (.int (jv_b q3.1)), some (.int v3)]) (pc' := 29) hE dX0_measureTo_28 rfl 2 rfl (by decide) rfl rfl ?_
        refine jv_iinc (x := v3) (v := (v3 + (1 : Int32))) (L' := [some (.ref 32), some (.int a1), some (.int (jv_b q3.1)), some (.int (v3 + (1 : Int32)))]) (pc' := 32) hE dX0_measureTo_29 rfl rfl rfl (by decide) rfl rfl ?_
        refine jv_goto (tgt := 13) hE dX0_measureTo_32 (by decide) ?_
        exact jv_forget [true, true, true, true] (ih q3.1 (v3 + (1 : Int32)) q3.2 _ h hk)
set_option maxRecDepth 100000 in
set_option maxHeartbeats 4000000 in
theorem ok_X0_measureTo {G : jv_G} {l : Launch} {σ : jv_S} {p1 : Int32} {r : jv_S} (h : f_X0_measureTo σ p1 = some r) : jv_Cn G l 5 M_X0_measureTo [.ref 32, .int p1] σ (none) r := by
  refine jv_of (L0 := [some (.ref 32), some (.int p1), none, none]) (by decide +kernel) (Nat.le_of_ble_eq_true rfl) rfl jv_okV (fun E e1 e2 hE hret => ?_)
  unfold f_X0_measureTo at h
  refine jv_aload_n (x := 32) (pc' := 1) hE dX0_measureTo_0 rfl 0 rfl rfl ?_
  refine jv_get (v := .ref 33) (pc' := 4) hE dX0_measureTo_1 rfl lF_X0_9 rfl rfl rfl ?_
  refine jv_ldc (v := (1000000000 : Int32)) (pc' := 6) hE dX0_measureTo_4 rfl lC_X0_47 ?_
  refine jv_callS (pc' := 9) (o := none) (σ' := (jv_fl σ 33 24 (1000000000 : Int32))) hE dX0_measureTo_6 rfl lS_X0_48 (ok_J7_fill_53178 (n := 24) (by decide) rfl rfl) rfl (by decide) rfl (Nat.le_of_ble_eq_true rfl) ?_
  show jv_V E 9 [some (.ref 32), some (.int p1), none, none] [] (jv_fl σ 33 24 (1000000000 : Int32))
  refine jv_iconst (v := (1 : Int32)) (pc' := 10) hE dX0_measureTo_9 rfl (by decide) ?_
  refine jv_istore_n (x := (1 : Int32)) (L' := [some (.ref 32), some (.int p1), some (.int (1 : Int32)), none]) (pc' := 11) hE dX0_measureTo_10 rfl 2 rfl (by decide) rfl rfl ?_
  refine jv_iconst (v := (0 : Int32)) (pc' := 12) hE dX0_measureTo_11 rfl (by decide) ?_
  refine jv_istore_n (x := (0 : Int32)) (L' := [some (.ref 32), some (.int p1), some (.int (1 : Int32)), some (.int (0 : Int32))]) (pc' := 13) hE dX0_measureTo_12 rfl 3 rfl (by decide) rfl rfl ?_
  obtain ⟨q4, hq4, h⟩ := jv_bd_some h
  refine jv_forget [true, true, true, true] (lp_X0_measureTo_13 hE jv_fuel true (0 : Int32) (jv_fl σ 33 24 (1000000000 : Int32)) _ hq4 ?_)
  cases h
  exact hret _ _ dX0_measureTo_35
noncomputable def f_X0_find_lp31 (a2 : Int32) (a4 : Int32) : Nat → Int32 → jv_S → Option (Int32 × jv_S)
  | 0, _, _ => none
  | n + 1, v3, σ => if v3 = (-1 : Int32) then (some (v3, σ)) else (if (24 : Int32) ≤ (σ.1 32 3) then (some (v3, σ)) else (jv_bd (if (f_X3_headOf (jv_si (jv_wr σ 34 24 (σ.1 32 3) v3) 32 3 (((jv_wr σ 34 24 (σ.1 32 3) v3).1 32 3) + (1 : Int32))) v3) = a2 then (some (-1 : Int32)) else (jv_bd (f_X0_bestAfter (jv_si (jv_wr σ 34 24 (σ.1 32 3) v3) 32 3 (((jv_wr σ 34 24 (σ.1 32 3) v3).1 32 3) + (1 : Int32))) v3 (f_X3_headOf (jv_si (jv_wr σ 34 24 (σ.1 32 3) v3) 32 3 (((jv_wr σ 34 24 (σ.1 32 3) v3).1 32 3) + (1 : Int32))) v3)) (fun q8 => some q8))) (fun q7 => f_X0_find_lp31 a2 a4 n q7 (jv_si (jv_wr σ 34 24 (σ.1 32 3) v3) 32 3 (((jv_wr σ 34 24 (σ.1 32 3) v3).1 32 3) + (1 : Int32))))))
noncomputable def f_X0_find (σ : jv_S) (p1 : Int32) (p2 : Int32) : Option (Int32 × jv_S) := if p1 = p2 then (some ((0 : Int32), (jv_si σ 32 3 (0 : Int32)))) else (jv_bd (f_X0_measureTo (jv_si σ 32 3 (0 : Int32)) p2) (fun q2 => jv_bd (f_X0_bestAfter q2 (-1 : Int32) p1) (fun q3 => jv_bd (f_X0_find_lp31 p2 (f_X0_lengthFrom q2 q3) jv_fuel q3 q2) (fun q9 => some ((f_X0_lengthFrom q2 q3), q9.2)))))
set_option maxRecDepth 100000 in
set_option maxHeartbeats 4000000 in
theorem lp_X0_find_31 {a2 : Int32} {a4 : Int32} {E : jv_E} (hE : jv_Cx E RX0 cX0_find 6 6) : ∀ (n : Nat) (v3 : Int32) (σ : jv_S) (q : Int32 × jv_S), f_X0_find_lp31 a2 a4 n v3 σ = some q → (jv_V E 98 [none, none, none, none, some (.int a4), none] [] q.2) → jv_V E 31 [some (.ref 32), none, some (.int a2), some (.int v3), some (.int a4), none] [] σ := by
  intro n
  induction n with
  | zero =>
    intro v3 σ q h
    rw [f_X0_find_lp31] at h
    cases h
  | succ n ih =>
    intro v3 σ q h hk
    rw [f_X0_find_lp31] at h
    refine jv_iload_n (x := v3) (pc' := 32) hE dX0_find_31 rfl 3 rfl rfl ?_
    refine jv_iconst (v := (-1 : Int32)) (pc' := 33) hE dX0_find_32 rfl (by decide) ?_
    refine jv_icmp_eq (x := v3) (y := (-1 : Int32)) (tgt := 98) (pc' := 36) hE dX0_find_33 (by decide) rfl (fun c4 => ?_) (fun c4 => ?_)
    · rw [if_pos c4] at h
      cases h
      exact jv_forget [false, true, false, false, true, true] hk
    · rw [if_neg c4] at h
      refine jv_aload_n (x := 32) (pc' := 37) hE dX0_find_36 rfl 0 rfl rfl ?_
      refine jv_get (v := .int (σ.1 32 3)) (pc' := 40) hE dX0_find_37 rfl lF_X0_22 rfl rfl rfl ?_
      refine jv_bipush (v := (24 : Int32)) (pc' := 42) hE dX0_find_40 rfl (by decide) ?_
      refine jv_icmp_ge (x := (σ.1 32 3)) (y := (24 : Int32)) (tgt := 98) (pc' := 45) hE dX0_find_42 (by decide) rfl (fun c5 => ?_) (fun c5 => ?_)
      · rw [if_pos c5] at h
        cases h
        exact jv_forget [false, true, false, false, true, true] hk
      · rw [if_neg c5] at h
        refine jv_aload_n (x := 32) (pc' := 46) hE dX0_find_45 rfl 0 rfl rfl ?_
        refine jv_get (v := .ref 34) (pc' := 49) hE dX0_find_46 rfl lF_X0_15 rfl rfl rfl ?_
        refine jv_aload_n (x := 32) (pc' := 50) hE dX0_find_49 rfl 0 rfl rfl ?_
        refine jv_get (v := .int (σ.1 32 3)) (pc' := 53) hE dX0_find_50 rfl lF_X0_22 rfl rfl rfl ?_
        refine jv_iload_n (x := v3) (pc' := 54) hE dX0_find_53 rfl 3 rfl rfl ?_
        refine jv_callN (pc' := 57) (o := none) (σ' := (jv_wr σ 34 24 (σ.1 32 3) v3)) hE dX0_find_54 rfl lN_X0_38 (ok_X7_put (n := 24) (by decide) rfl rfl) rfl (by decide) rfl (Nat.le_of_ble_eq_true rfl) ?_
        show jv_V E 57 [some (.ref 32), none, some (.int a2), some (.int v3), some (.int a4), none] [] (jv_wr σ 34 24 (σ.1 32 3) v3)
        refine jv_aload_n (x := 32) (pc' := 58) hE dX0_find_57 rfl 0 rfl rfl ?_
        refine jv_dup (pc' := 59) hE dX0_find_58 rfl rfl ?_
        refine jv_get (v := .int ((jv_wr σ 34 24 (σ.1 32 3) v3).1 32 3)) (pc' := 62) hE dX0_find_59 rfl lF_X0_22 rfl rfl rfl ?_
        refine jv_iconst (v := (1 : Int32)) (pc' := 63) hE dX0_find_62 rfl (by decide) ?_
        refine jv_iadd (x := ((jv_wr σ 34 24 (σ.1 32 3) v3).1 32 3)) (y := (1 : Int32)) (pc' := 64) hE dX0_find_63 rfl ?_
        refine jv_puti (x := (((jv_wr σ 34 24 (σ.1 32 3) v3).1 32 3) + (1 : Int32))) (pc' := 67) hE dX0_find_64 rfl lP_X0_22 rfl rfl rfl rfl ?_
        refine jv_aload_n (x := 32) (pc' := 68) hE dX0_find_67 rfl 0 rfl rfl ?_
        refine jv_get (v := .ref 1) (pc' := 71) hE dX0_find_68 rfl lF_X0_18 rfl rfl rfl ?_
        refine jv_iload_n (x := v3) (pc' := 72) hE dX0_find_71 rfl 3 rfl rfl ?_
        refine jv_callV (pc' := 75) (o := some (.int (f_X3_headOf (jv_si (jv_wr σ 34 24 (σ.1 32 3) v3) 32 3 (((jv_wr σ 34 24 (σ.1 32 3) v3).1 32 3) + (1 : Int32))) v3))) (σ' := (jv_si (jv_wr σ 34 24 (σ.1 32 3) v3) 32 3 (((jv_wr σ 34 24 (σ.1 32 3) v3).1 32 3) + (1 : Int32)))) hE dX0_find_72 rfl lV_X0_42 (ok_X3_headOf rfl) rfl rfl rfl (by decide) rfl (Nat.le_of_ble_eq_true rfl) ?_
        show jv_V E 75 [some (.ref 32), none, some (.int a2), some (.int v3), some (.int a4), none] [.int (f_X3_headOf (jv_si (jv_wr σ 34 24 (σ.1 32 3) v3) 32 3 (((jv_wr σ 34 24 (σ.1 32 3) v3).1 32 3) + (1 : Int32))) v3)] (jv_si (jv_wr σ 34 24 (σ.1 32 3) v3) 32 3 (((jv_wr σ 34 24 (σ.1 32 3) v3).1 32 3) + (1 : Int32)))
        refine jv_istore (x := (f_X3_headOf (jv_si (jv_wr σ 34 24 (σ.1 32 3) v3) 32 3 (((jv_wr σ 34 24 (σ.1 32 3) v3).1 32 3) + (1 : Int32))) v3)) (L' := [some (.ref 32), none, some (.int a2), some (.int v3), some (.int a4), some (.int (f_X3_headOf (jv_si (jv_wr σ 34 24 (σ.1 32 3) v3) 32 3 (((jv_wr σ 34 24 (σ.1 32 3) v3).1 32 3) + (1 : Int32))) v3))]) (pc' := 77) hE dX0_find_75 rfl (by decide) rfl rfl ?_
        refine jv_iload (x := (f_X3_headOf (jv_si (jv_wr σ 34 24 (σ.1 32 3) v3) 32 3 (((jv_wr σ 34 24 (σ.1 32 3) v3).1 32 3) + (1 : Int32))) v3)) (pc' := 79) hE dX0_find_77 rfl rfl ?_
        refine jv_iload_n (x := a2) (pc' := 80) hE dX0_find_79 rfl 2 rfl rfl ?_
        obtain ⟨q7, hq7, h⟩ := jv_bd_some h
        have kq7 : jv_V E 94 [some (.ref 32), none, some (.int a2), none, some (.int a4), none] [.int q7] (jv_si (jv_wr σ 34 24 (σ.1 32 3) v3) 32 3 (((jv_wr σ 34 24 (σ.1 32 3) v3).1 32 3) + (1 : Int32))) := by
          refine jv_istore_n (x := q7) (L' := [some (.ref 32), none, some (.int a2), some (.int q7), some (.int a4), none]) (pc' := 95) hE dX0_find_94 rfl 3 rfl (by decide) rfl rfl ?_
          refine jv_goto (tgt := 31) hE dX0_find_95 (by decide) ?_
          exact jv_forget [true, true, true, true, true, true] (ih q7 (jv_si (jv_wr σ 34 24 (σ.1 32 3) v3) 32 3 (((jv_wr σ 34 24 (σ.1 32 3) v3).1 32 3) + (1 : Int32))) _ h hk)
        refine jv_icmp_ne (x := (f_X3_headOf (jv_si (jv_wr σ 34 24 (σ.1 32 3) v3) 32 3 (((jv_wr σ 34 24 (σ.1 32 3) v3).1 32 3) + (1 : Int32))) v3)) (y := a2) (tgt := 87) (pc' := 83) hE dX0_find_80 (by decide) rfl (fun c6 => ?_) (fun c6 => ?_)
        · rw [if_neg c6] at hq7
          refine jv_aload_n (x := 32) (pc' := 88) hE dX0_find_87 rfl 0 rfl rfl ?_
          refine jv_iload_n (x := v3) (pc' := 89) hE dX0_find_88 rfl 3 rfl rfl ?_
          refine jv_iload (x := (f_X3_headOf (jv_si (jv_wr σ 34 24 (σ.1 32 3) v3) 32 3 (((jv_wr σ 34 24 (σ.1 32 3) v3).1 32 3) + (1 : Int32))) v3)) (pc' := 91) hE dX0_find_89 rfl rfl ?_
          obtain ⟨q8, hq8, hq7⟩ := jv_bd_some hq7
          refine jv_callV (pc' := 94) (o := some (.int q8)) (σ' := (jv_si (jv_wr σ 34 24 (σ.1 32 3) v3) 32 3 (((jv_wr σ 34 24 (σ.1 32 3) v3).1 32 3) + (1 : Int32)))) hE dX0_find_91 rfl lV_X0_30 (ok_X0_bestAfter hq8) rfl rfl rfl (by decide) rfl (Nat.le_of_ble_eq_true rfl) ?_
          show jv_V E 94 [some (.ref 32), none, some (.int a2), some (.int v3), some (.int a4), some (.int (f_X3_headOf (jv_si (jv_wr σ 34 24 (σ.1 32 3) v3) 32 3 (((jv_wr σ 34 24 (σ.1 32 3) v3).1 32 3) + (1 : Int32))) v3))] [.int q8] (jv_si (jv_wr σ 34 24 (σ.1 32 3) v3) 32 3 (((jv_wr σ 34 24 (σ.1 32 3) v3).1 32 3) + (1 : Int32)))
          cases hq7
          exact jv_forget [true, true, true, false, true, false] kq7
        · rw [if_pos c6] at hq7
          refine jv_iconst (v := (-1 : Int32)) (pc' := 84) hE dX0_find_83 rfl (by decide) ?_
          refine jv_goto (tgt := 94) hE dX0_find_84 (by decide) ?_
          cases hq7
          exact jv_forget [true, true, true, false, true, false] kq7
set_option maxRecDepth 100000 in
set_option maxHeartbeats 4000000 in
theorem ok_X0_find {G : jv_G} {l : Launch} {σ : jv_S} {p1 : Int32} {p2 : Int32} {r : Int32 × jv_S} (h : f_X0_find σ p1 p2 = some r) : jv_Cn G l 6 M_X0_find [.ref 32, .int p1, .int p2] σ (some (.int r.1)) r.2 := by
  refine jv_of (L0 := [some (.ref 32), some (.int p1), some (.int p2), none, none, none]) (by decide +kernel) (Nat.le_of_ble_eq_true rfl) rfl (jv_okI _) (fun E e1 e2 hE hret => ?_)
  unfold f_X0_find at h
  refine jv_aload_n (x := 32) (pc' := 1) hE dX0_find_0 rfl 0 rfl rfl ?_
  refine jv_iconst (v := (0 : Int32)) (pc' := 2) hE dX0_find_1 rfl (by decide) ?_
  refine jv_puti (x := (0 : Int32)) (pc' := 5) hE dX0_find_2 rfl lP_X0_22 rfl rfl rfl rfl ?_
  refine jv_iload_n (x := p1) (pc' := 6) hE dX0_find_5 rfl 1 rfl rfl ?_
  refine jv_iload_n (x := p2) (pc' := 7) hE dX0_find_6 rfl 2 rfl rfl ?_
  refine jv_icmp_ne (x := p1) (y := p2) (tgt := 12) (pc' := 10) hE dX0_find_7 (by decide) rfl (fun c1 => ?_) (fun c1 => ?_)
  · rw [if_neg c1] at h
    refine jv_aload_n (x := 32) (pc' := 13) hE dX0_find_12 rfl 0 rfl rfl ?_
    refine jv_iload_n (x := p2) (pc' := 14) hE dX0_find_13 rfl 2 rfl rfl ?_
    obtain ⟨q2, hq2, h⟩ := jv_bd_some h
    refine jv_callV (pc' := 17) (o := none) (σ' := q2) hE dX0_find_14 rfl lV_X0_26 (ok_X0_measureTo hq2) rfl rfl rfl (by decide) rfl (Nat.le_of_ble_eq_true rfl) ?_
    show jv_V E 17 [some (.ref 32), some (.int p1), some (.int p2), none, none, none] [] q2
    refine jv_aload_n (x := 32) (pc' := 18) hE dX0_find_17 rfl 0 rfl rfl ?_
    refine jv_iconst (v := (-1 : Int32)) (pc' := 19) hE dX0_find_18 rfl (by decide) ?_
    refine jv_iload_n (x := p1) (pc' := 20) hE dX0_find_19 rfl 1 rfl rfl ?_
    obtain ⟨q3, hq3, h⟩ := jv_bd_some h
    refine jv_callV (pc' := 23) (o := some (.int q3)) (σ' := q2) hE dX0_find_20 rfl lV_X0_30 (ok_X0_bestAfter hq3) rfl rfl rfl (by decide) rfl (Nat.le_of_ble_eq_true rfl) ?_
    show jv_V E 23 [some (.ref 32), some (.int p1), some (.int p2), none, none, none] [.int q3] q2
    refine jv_istore_n (x := q3) (L' := [some (.ref 32), some (.int p1), some (.int p2), some (.int q3), none, none]) (pc' := 24) hE dX0_find_23 rfl 3 rfl (by decide) rfl rfl ?_
    refine jv_aload_n (x := 32) (pc' := 25) hE dX0_find_24 rfl 0 rfl rfl ?_
    refine jv_iload_n (x := q3) (pc' := 26) hE dX0_find_25 rfl 3 rfl rfl ?_
    refine jv_callV (pc' := 29) (o := some (.int (f_X0_lengthFrom q2 q3))) (σ' := q2) hE dX0_find_26 rfl lV_X0_34 (ok_X0_lengthFrom rfl) rfl rfl rfl (by decide) rfl (Nat.le_of_ble_eq_true rfl) ?_
    show jv_V E 29 [some (.ref 32), some (.int p1), some (.int p2), some (.int q3), none, none] [.int (f_X0_lengthFrom q2 q3)] q2
    refine jv_istore (x := (f_X0_lengthFrom q2 q3)) (L' := [some (.ref 32), some (.int p1), some (.int p2), some (.int q3), some (.int (f_X0_lengthFrom q2 q3)), none]) (pc' := 31) hE dX0_find_29 rfl (by decide) rfl rfl ?_
    obtain ⟨q9, hq9, h⟩ := jv_bd_some h
    refine jv_forget [true, false, true, true, true, true] (lp_X0_find_31 hE jv_fuel q3 q2 _ hq9 ?_)
    refine jv_iload (x := (f_X0_lengthFrom q2 q3)) (pc' := 100) hE dX0_find_98 rfl rfl ?_
    cases h
    exact hret _ _ dX0_find_100
  · rw [if_pos c1] at h
    refine jv_iconst (v := (0 : Int32)) (pc' := 11) hE dX0_find_10 rfl (by decide) ?_
    cases h
    exact hret _ _ dX0_find_11
noncomputable def f_X0_foundSize (σ : jv_S) : Int32 := (σ.1 32 3)
set_option maxRecDepth 100000 in
set_option maxHeartbeats 4000000 in
theorem ok_X0_foundSize {G : jv_G} {l : Launch} {σ : jv_S} {r : Int32} (h : f_X0_foundSize σ = r) : jv_Cn G l 1 M_X0_foundSize [.ref 32] σ (some (.int r)) σ := by
  refine jv_of (L0 := [some (.ref 32)]) (by decide +kernel) (Nat.le_of_ble_eq_true rfl) rfl (jv_okI _) (fun E e1 e2 hE hret => ?_)
  unfold f_X0_foundSize at h
  refine jv_aload_n (x := 32) (pc' := 1) hE dX0_foundSize_0 rfl 0 rfl rfl ?_
  refine jv_get (v := .int (σ.1 32 3)) (pc' := 4) hE dX0_foundSize_1 rfl lF_X0_22 rfl rfl rfl ?_
  cases h
  exact hret _ _ dX0_foundSize_4
noncomputable def f_X0_foundEdge (σ : jv_S) (p1 : Int32) : Int32 := jv_lt (if p1 < 0 then ((-1 : Int32)) else (if (σ.1 32 3) ≤ p1 then ((-1 : Int32)) else ((jv_rd (σ.1 34) 24 0 p1)))) (fun q2 => q2)
set_option maxRecDepth 100000 in
set_option maxHeartbeats 4000000 in
theorem ok_X0_foundEdge {G : jv_G} {l : Launch} {σ : jv_S} {p1 : Int32} {r : Int32} (h : f_X0_foundEdge σ p1 = r) : jv_Cn G l 2 M_X0_foundEdge [.ref 32, .int p1] σ (some (.int r)) σ := by
  refine jv_of (L0 := [some (.ref 32), some (.int p1)]) (by decide +kernel) (Nat.le_of_ble_eq_true rfl) rfl (jv_okI _) (fun E e1 e2 hE hret => ?_)
  unfold f_X0_foundEdge at h
  refine jv_iload_n (x := p1) (pc' := 1) hE dX0_foundEdge_0 rfl 1 rfl rfl ?_
  obtain ⟨q2, hq2, h⟩ := jv_lt_eq h
  have kq2 : jv_V E 24 [none, none] [.int q2] σ := by
    cases h
    exact hret _ _ dX0_foundEdge_24
  refine jv_if_lt (x := p1) (tgt := 23) (pc' := 4) hE dX0_foundEdge_1 (by decide) rfl (fun c1 => ?_) (fun c1 => ?_)
  · rw [if_pos c1] at hq2
    refine jv_iconst (v := (-1 : Int32)) (pc' := 24) hE dX0_foundEdge_23 rfl (by decide) ?_
    cases hq2
    exact jv_forget [false, false] kq2
  · rw [if_neg c1] at hq2
    refine jv_iload_n (x := p1) (pc' := 5) hE dX0_foundEdge_4 rfl 1 rfl rfl ?_
    refine jv_aload_n (x := 32) (pc' := 6) hE dX0_foundEdge_5 rfl 0 rfl rfl ?_
    refine jv_get (v := .int (σ.1 32 3)) (pc' := 9) hE dX0_foundEdge_6 rfl lF_X0_22 rfl rfl rfl ?_
    refine jv_icmp_ge (x := p1) (y := (σ.1 32 3)) (tgt := 23) (pc' := 12) hE dX0_foundEdge_9 (by decide) rfl (fun c3 => ?_) (fun c3 => ?_)
    · rw [if_pos c3] at hq2
      refine jv_iconst (v := (-1 : Int32)) (pc' := 24) hE dX0_foundEdge_23 rfl (by decide) ?_
      cases hq2
      exact jv_forget [false, false] kq2
    · rw [if_neg c3] at hq2
      refine jv_aload_n (x := 32) (pc' := 13) hE dX0_foundEdge_12 rfl 0 rfl rfl ?_
      refine jv_get (v := .ref 34) (pc' := 16) hE dX0_foundEdge_13 rfl lF_X0_15 rfl rfl rfl ?_
      refine jv_iload_n (x := p1) (pc' := 17) hE dX0_foundEdge_16 rfl 1 rfl rfl ?_
      refine jv_callN (pc' := 20) (o := some (.int (jv_rd (σ.1 34) 24 0 p1))) (σ' := σ) hE dX0_foundEdge_17 rfl lN_X0_68 (ok_X7_at (n := 24) (by decide) rfl rfl) rfl (by decide) rfl (Nat.le_of_ble_eq_true rfl) ?_
      show jv_V E 20 [some (.ref 32), some (.int p1)] [.int (jv_rd (σ.1 34) 24 0 p1)] σ
      refine jv_goto (tgt := 24) hE dX0_foundEdge_20 (by decide) ?_
      cases hq2
      exact jv_forget [false, false] kq2
