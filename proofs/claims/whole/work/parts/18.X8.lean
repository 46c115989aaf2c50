noncomputable def f_X8_thrown (σ : jv_S) : Int32 := (σ.1 35 0)
set_option maxRecDepth 100000 in
set_option maxHeartbeats 4000000 in
theorem ok_X8_thrown {G : jv_G} {l : Launch} {σ : jv_S} {r : Int32} (h : f_X8_thrown σ = r) : jv_Cn G l 1 M_X8_thrown [.ref 35] σ (some (.int r)) σ := by
  refine jv_of (L0 := [some (.ref 35)]) (by decide +kernel) (Nat.le_of_ble_eq_true rfl) rfl (jv_okI _) (fun E e1 e2 hE hret => ?_)
  unfold f_X8_thrown at h
  refine jv_aload_n (x := 35) (pc' := 1) hE dX8_thrown_0 rfl 0 rfl rfl ?_
  refine jv_get (v := .int (σ.1 35 0)) (pc' := 4) hE dX8_thrown_1 rfl lF_X8_90 rfl rfl rfl ?_
  cases h
  exact hret _ _ dX8_thrown_4
noncomputable def f_X8_in (σ : jv_S) (p1 : Int32) (p2 : Int32) (p3 : Int32) : Bool := jv_lt (if p1 < p2 then (false) else (if p3 < p1 then (false) else (true))) (fun q2 => q2)
set_option maxRecDepth 100000 in
set_option maxHeartbeats 4000000 in
theorem ok_X8_in {G : jv_G} {l : Launch} {σ : jv_S} {p1 : Int32} {p2 : Int32} {p3 : Int32} {r : Bool} (h : f_X8_in σ p1 p2 p3 = r) : jv_Cn G l 1 M_X8_in [.int p1, .int p2, .int p3] σ (some (.int (jv_b r))) σ := by
  refine jv_of (L0 := [some (.int p1), some (.int p2), some (.int p3)]) (by decide +kernel) (Nat.le_of_ble_eq_true rfl) rfl (jv_okZ _) (fun E e1 e2 hE hret => ?_)
  unfold f_X8_in at h
  refine jv_iload_n (x := p1) (pc' := 1) hE dX8_in_0 rfl 0 rfl rfl ?_
  refine jv_iload_n (x := p2) (pc' := 2) hE dX8_in_1 rfl 1 rfl rfl ?_
  obtain ⟨q2, hq2, h⟩ := jv_lt_eq h
  have kq2 : jv_V E 15 [none, none, none] [.int (jv_b q2)] σ := by
    cases h
    exact hret _ _ dX8_in_15
  refine jv_icmp_lt (x := p1) (y := p2) (tgt := 14) (pc' := 5) hE dX8_in_2 (by decide) rfl (fun c1 => ?_) (fun c1 => ?_)
  · rw [if_pos c1] at hq2
    refine jv_iconst (v := (0 : Int32)) (pc' := 15) hE dX8_in_14 rfl (by decide) ?_
    cases hq2
    exact jv_forget [false, false, false] kq2
  · rw [if_neg c1] at hq2
    refine jv_iload_n (x := p1) (pc' := 6) hE dX8_in_5 rfl 0 rfl rfl ?_
    refine jv_iload_n (x := p3) (pc' := 7) hE dX8_in_6 rfl 2 rfl rfl ?_
    refine jv_icmp_gt (x := p1) (y := p3) (tgt := 14) (pc' := 10) hE dX8_in_7 (by decide) rfl (fun c3 => ?_) (fun c3 => ?_)
    · rw [if_pos c3] at hq2
      refine jv_iconst (v := (0 : Int32)) (pc' := 15) hE dX8_in_14 rfl (by decide) ?_
      cases hq2
      exact jv_forget [false, false, false] kq2
    · rw [if_neg c3] at hq2
      refine jv_iconst (v := (1 : Int32)) (pc' := 11) hE dX8_in_10 rfl (by decide) ?_
      refine jv_goto (tgt := 15) hE dX8_in_11 (by decide) ?_
      cases hq2
      exact jv_forget [false, false, false] kq2
noncomputable def f_X8_holds (σ : jv_S) (p1 : Int32) : Bool × jv_S := jv_lt (if p1 = 0 then (true) else (false)) (fun q2 => (q2, (jv_si σ 35 0 p1)))
set_option maxRecDepth 100000 in
set_option maxHeartbeats 4000000 in
theorem ok_X8_holds {G : jv_G} {l : Launch} {σ : jv_S} {p1 : Int32} {r : Bool × jv_S} (h : f_X8_holds σ p1 = r) : jv_Cn G l 1 M_X8_holds [.ref 35, .int p1] σ (some (.int (jv_b r.1))) r.2 := by
  refine jv_of (L0 := [some (.ref 35), some (.int p1)]) (by decide +kernel) (Nat.le_of_ble_eq_true rfl) rfl (jv_okZ _) (fun E e1 e2 hE hret => ?_)
  unfold f_X8_holds at h
  refine jv_aload_n (x := 35) (pc' := 1) hE dX8_holds_0 rfl 0 rfl rfl ?_
  refine jv_iload_n (x := p1) (pc' := 2) hE dX8_holds_1 rfl 1 rfl rfl ?_
  refine jv_puti (x := p1) (pc' := 5) hE dX8_holds_2 rfl lP_X8_90 rfl rfl rfl rfl ?_
  refine jv_iload_n (x := p1) (pc' := 6) hE dX8_holds_5 rfl 1 rfl rfl ?_
  obtain ⟨q2, hq2, h⟩ := jv_lt_eq h
  have kq2 : jv_V E 14 [none, none] [.int (jv_b q2)] (jv_si σ 35 0 p1) := by
    cases h
    exact hret _ _ dX8_holds_14
  refine jv_if_ne (x := p1) (tgt := 13) (pc' := 9) hE dX8_holds_6 (by decide) rfl (fun c1 => ?_) (fun c1 => ?_)
  · rw [if_neg c1] at hq2
    refine jv_iconst (v := (0 : Int32)) (pc' := 14) hE dX8_holds_13 rfl (by decide) ?_
    cases hq2
    exact jv_forget [false, false] kq2
  · rw [if_pos c1] at hq2
    refine jv_iconst (v := (1 : Int32)) (pc' := 10) hE dX8_holds_9 rfl (by decide) ?_
    refine jv_goto (tgt := 14) hE dX8_holds_10 (by decide) ?_
    cases hq2
    exact jv_forget [false, false] kq2
noncomputable def f_X8_isChanged (σ : jv_S) : jv_S := (jv_si (jv_si σ 35 9 (0 : Int32)) 35 23 (0 : Int32))
set_option maxRecDepth 100000 in
set_option maxHeartbeats 4000000 in
theorem ok_X8_isChanged {G : jv_G} {l : Launch} {σ : jv_S} {r : jv_S} (h : f_X8_isChanged σ = r) : jv_Cn G l 1 M_X8_isChanged [.ref 35] σ (none) r := by
  refine jv_of (L0 := [some (.ref 35)]) (by decide +kernel) (Nat.le_of_ble_eq_true rfl) rfl jv_okV (fun E e1 e2 hE hret => ?_)
  unfold f_X8_isChanged at h
  refine jv_aload_n (x := 35) (pc' := 1) hE dX8_isChanged_0 rfl 0 rfl rfl ?_
  refine jv_iconst (v := (0 : Int32)) (pc' := 2) hE dX8_isChanged_1 rfl (by decide) ?_
  refine jv_puti (x := (0 : Int32)) (pc' := 5) hE dX8_isChanged_2 rfl lP_X8_108 rfl rfl (by decide) (by decide) ?_
  refine jv_aload_n (x := 35) (pc' := 6) hE dX8_isChanged_5 rfl 0 rfl rfl ?_
  refine jv_iconst (v := (0 : Int32)) (pc' := 7) hE dX8_isChanged_6 rfl (by decide) ?_
  refine jv_puti (x := (0 : Int32)) (pc' := 10) hE dX8_isChanged_7 rfl lP_X8_112 rfl rfl (by decide) (by decide) ?_
  cases h
  exact hret _ _ dX8_isChanged_10
noncomputable def f_X8_begin_lp38 : Nat → Int32 → jv_S → Option (Int32 × jv_S)
  | 0, _, _ => none
  | n + 1, v2, σ => if (10 : Int32) ≤ v2 then (some (v2, σ)) else (if jv_ck v2 10 = true then (f_X8_begin_lp38 n (v2 + (1 : Int32)) (jv_si σ 40 v2.toNatClampNeg (0 : Int32))) else none)
noncomputable def f_X8_begin_lp59 : Nat → Int32 → jv_S → Option (Int32 × jv_S)
  | 0, _, _ => none
  | n + 1, v2, σ => if (576 : Int32) ≤ v2 then (some (v2, σ)) else (if jv_ck v2 576 = true then (f_X8_begin_lp59 n (v2 + (1 : Int32)) (jv_si σ 41 v2.toNatClampNeg (0 : Int32))) else none)
noncomputable def f_X8_begin (σ : jv_S) (p1 : Int32) : Option (jv_S) := jv_lt (if (f_X8_in σ p1 (2 : Int32) (10 : Int32)) = true then (false) else (true)) (fun q2 => jv_lt (f_X8_holds σ (jv_b q2)) (fun q3 => jv_bd (if q3.1 = true then (jv_lt (f_X8_isChanged (jv_si (jv_si q3.2 35 1 p1) 35 2 (0 : Int32))) (fun q6 => jv_bd (f_X8_begin_lp38 jv_fuel (0 : Int32) q6) (fun q7 => jv_bd (f_X8_begin_lp59 jv_fuel (0 : Int32) q7.2) (fun q8 => some q8.2)))) else (some q3.2)) (fun q5 => some q5)))
set_option maxRecDepth 100000 in
set_option maxHeartbeats 4000000 in
theorem lp_X8_begin_38 {E : jv_E} (hE : jv_Cx E RX8 cX8_begin 3 2) : ∀ (n : Nat) (v2 : Int32) (σ : jv_S) (q : Int32 × jv_S), f_X8_begin_lp38 n v2 σ = some q → (jv_V E 57 [some (.ref 35), none, none] [] q.2) → jv_V E 38 [some (.ref 35), none, some (.int v2)] [] σ := by
  intro n
  induction n with
  | zero =>
    intro v2 σ q h
    rw [f_X8_begin_lp38] at h
    cases h
  | succ n ih =>
    intro v2 σ q h hk
    rw [f_X8_begin_lp38] at h
    refine jv_iload_n (x := v2) (pc' := 39) hE dX8_begin_38 rfl 2 rfl rfl ?_
    refine jv_bipush (v := (10 : Int32)) (pc' := 41) hE dX8_begin_39 rfl (by decide) ?_
    refine jv_icmp_ge (x := v2) (y := (10 : Int32)) (tgt := 57) (pc' := 44) hE dX8_begin_41 (by decide) rfl (fun c6 => ?_) (fun c6 => ?_)
    · rw [if_pos c6] at h
      cases h
      exact jv_forget [true, true, false] hk
    · rw [if_neg c6] at h
      refine jv_aload_n (x := 35) (pc' := 45) hE dX8_begin_44 rfl 0 rfl rfl ?_
      refine jv_get (v := .ref 40) (pc' := 48) hE dX8_begin_45 rfl lF_X8_27 rfl rfl rfl ?_
      refine jv_iload_n (x := v2) (pc' := 49) hE dX8_begin_48 rfl 2 rfl rfl ?_
      refine jv_iconst (v := (0 : Int32)) (pc' := 50) hE dX8_begin_49 rfl (by decide) ?_
      by_cases c7 : jv_ck v2 10 = true
      · rw [if_pos c7] at h
        refine jv_zast (pc' := 51) hE dX8_begin_50 rfl rfl (jv_ck_in c7) (by decide) ?_
        refine jv_iinc (x := v2) (v := (v2 + (1 : Int32))) (L' := [some (.ref 35), none, some (.int (v2 + (1 : Int32)))]) (pc' := 54) hE dX8_begin_51 rfl rfl rfl (by decide) rfl rfl ?_
        refine jv_goto (tgt := 38) hE dX8_begin_54 (by decide) ?_
        exact jv_forget [true, true, true] (ih (v2 + (1 : Int32)) (jv_si σ 40 v2.toNatClampNeg (0 : Int32)) _ h hk)
      · rw [if_neg c7] at h; cases h
set_option maxRecDepth 100000 in
set_option maxHeartbeats 4000000 in
theorem lp_X8_begin_59 {E : jv_E} (hE : jv_Cx E RX8 cX8_begin 3 2) : ∀ (n : Nat) (v2 : Int32) (σ : jv_S) (q : Int32 × jv_S), f_X8_begin_lp59 n v2 σ = some q → (jv_V E 79 [none, none, none] [] q.2) → jv_V E 59 [some (.ref 35), none, some (.int v2)] [] σ := by
  intro n
  induction n with
  | zero =>
    intro v2 σ q h
    rw [f_X8_begin_lp59] at h
    cases h
  | succ n ih =>
    intro v2 σ q h hk
    rw [f_X8_begin_lp59] at h
    refine jv_iload_n (x := v2) (pc' := 60) hE dX8_begin_59 rfl 2 rfl rfl ?_
    refine jv_sipush (v := (576 : Int32)) (pc' := 63) hE dX8_begin_60 rfl (by decide) ?_
    refine jv_icmp_ge (x := v2) (y := (576 : Int32)) (tgt := 79) (pc' := 66) hE dX8_begin_63 (by decide) rfl (fun c9 => ?_) (fun c9 => ?_)
    · rw [if_pos c9] at h
      cases h
      exact jv_forget [false, true, false] hk
    · rw [if_neg c9] at h
      refine jv_aload_n (x := 35) (pc' := 67) hE dX8_begin_66 rfl 0 rfl rfl ?_
      refine jv_get (v := .ref 41) (pc' := 70) hE dX8_begin_67 rfl lF_X8_30 rfl rfl rfl ?_
      refine jv_iload_n (x := v2) (pc' := 71) hE dX8_begin_70 rfl 2 rfl rfl ?_
      refine jv_iconst (v := (0 : Int32)) (pc' := 72) hE dX8_begin_71 rfl (by decide) ?_
      by_cases c10 : jv_ck v2 576 = true
      · rw [if_pos c10] at h
        refine jv_zast (pc' := 73) hE dX8_begin_72 rfl rfl (jv_ck_in c10) (by decide) ?_
        refine jv_iinc (x := v2) (v := (v2 + (1 : Int32))) (L' := [some (.ref 35), none, some (.int (v2 + (1 : Int32)))]) (pc' := 76) hE dX8_begin_73 rfl rfl rfl (by decide) rfl rfl ?_
        refine jv_goto (tgt := 59) hE dX8_begin_76 (by decide) ?_
        exact jv_forget [true, true, true] (ih (v2 + (1 : Int32)) (jv_si σ 41 v2.toNatClampNeg (0 : Int32)) _ h hk)
      · rw [if_neg c10] at h; cases h
set_option maxRecDepth 100000 in
set_option maxHeartbeats 4000000 in
theorem ok_X8_begin {G : jv_G} {l : Launch} {σ : jv_S} {p1 : Int32} {r : jv_S} (h : f_X8_begin σ p1 = some r) : jv_Cn G l 2 M_X8_begin [.ref 35, .int p1] σ (none) r := by
  refine jv_of (L0 := [some (.ref 35), some (.int p1), none]) (by decide +kernel) (Nat.le_of_ble_eq_true rfl) rfl jv_okV (fun E e1 e2 hE hret => ?_)
  unfold f_X8_begin at h
  refine jv_aload_n (x := 35) (pc' := 1) hE dX8_begin_0 rfl 0 rfl rfl ?_
  refine jv_iload_n (x := p1) (pc' := 2) hE dX8_begin_1 rfl 1 rfl rfl ?_
  refine jv_iconst (v := (2 : Int32)) (pc' := 3) hE dX8_begin_2 rfl (by decide) ?_
  refine jv_bipush (v := (10 : Int32)) (pc' := 5) hE dX8_begin_3 rfl (by decide) ?_
  refine jv_callS (pc' := 8) (o := some (.int (jv_b (f_X8_in σ p1 (2 : Int32) (10 : Int32))))) (σ' := σ) hE dX8_begin_5 rfl lS_X8_93 (ok_X8_in rfl) rfl (by decide) rfl (Nat.le_of_ble_eq_true rfl) ?_
  show jv_V E 8 [some (.ref 35), some (.int p1), none] [.int (jv_b (f_X8_in σ p1 (2 : Int32) (10 : Int32))), .ref 35] σ
  obtain ⟨q2, hq2, h⟩ := jv_lt_eq h
  have kq2 : jv_V E 16 [some (.ref 35), some (.int p1), none] [.int (jv_b q2), .ref 35] σ := by
    obtain ⟨q3, hq3, h⟩ := jv_lt_eq h
    refine jv_callV (pc' := 19) (o := some (.int (jv_b q3.1))) (σ' := q3.2) hE dX8_begin_16 rfl lV_X8_115 (ok_X8_holds hq3) rfl rfl rfl (by decide) rfl (Nat.le_of_ble_eq_true rfl) ?_
    show jv_V E 19 [some (.ref 35), some (.int p1), none] [.int (jv_b q3.1)] q3.2
    obtain ⟨q5, hq5, h⟩ := jv_bd_some h
    have kq5 : jv_V E 79 [none, none, none] [] q5 := by
      cases h
      exact hret _ _ dX8_begin_79
    refine jv_if_eq (x := (jv_b q3.1)) (tgt := 79) (pc' := 22) hE dX8_begin_19 (by decide) rfl (fun c4 => ?_) (fun c4 => ?_)
    · have c4 := jv_b0 c4
      rw [if_neg c4] at hq5
      cases hq5
      exact jv_forget [false, false, true] kq5
    · have c4 := jv_b1 c4
      rw [if_pos c4] at hq5
      refine jv_aload_n (x := 35) (pc' := 23) hE dX8_begin_22 rfl 0 rfl rfl ?_
      refine jv_iload_n (x := p1) (pc' := 24) hE dX8_begin_23 rfl 1 rfl rfl ?_
      refine jv_puti (x := p1) (pc' := 27) hE dX8_begin_24 rfl lP_X8_7 rfl rfl rfl rfl ?_
      refine jv_aload_n (x := 35) (pc' := 28) hE dX8_begin_27 rfl 0 rfl rfl ?_
      refine jv_iconst (v := (0 : Int32)) (pc' := 29) hE dX8_begin_28 rfl (by decide) ?_
      refine jv_puti (x := (0 : Int32)) (pc' := 32) hE dX8_begin_29 rfl lP_X8_105 rfl rfl rfl rfl ?_
      refine jv_aload_n (x := 35) (pc' := 33) hE dX8_begin_32 rfl 0 rfl rfl ?_
      obtain ⟨q6, hq6, hq5⟩ := jv_lt_eq hq5
      refine jv_callV (pc' := 36) (o := none) (σ' := q6) hE dX8_begin_33 rfl lV_X8_118 (ok_X8_isChanged hq6) rfl rfl rfl (by decide) rfl (Nat.le_of_ble_eq_true rfl) ?_
      show jv_V E 36 [some (.ref 35), some (.int p1), none] [] q6
      refine jv_iconst (v := (0 : Int32)) (pc' := 37) hE dX8_begin_36 rfl (by decide) ?_
      refine jv_istore_n (x := (0 : Int32)) (L' := [some (.ref 35), some (.int p1), some (.int (0 : Int32))]) (pc' := 38) hE dX8_begin_37 rfl 2 rfl (by decide) rfl rfl ?_
      obtain ⟨q7, hq7, hq5⟩ := jv_bd_some hq5
      refine jv_forget [true, false, true] (lp_X8_begin_38 hE jv_fuel (0 : Int32) q6 _ hq7 ?_)
      refine jv_iconst (v := (0 : Int32)) (pc' := 58) hE dX8_begin_57 rfl (by decide) ?_
      refine jv_istore_n (x := (0 : Int32)) (L' := [some (.ref 35), none, some (.int (0 : Int32))]) (pc' := 59) hE dX8_begin_58 rfl 2 rfl (by decide) rfl rfl ?_
      obtain ⟨q8, hq8, hq5⟩ := jv_bd_some hq5
      refine jv_forget [true, true, true] (lp_X8_begin_59 hE jv_fuel (0 : Int32) q7.2 _ hq8 ?_)
      cases hq5
      exact jv_forget [true, true, true] kq5
  refine jv_if_eq (x := (jv_b (f_X8_in σ p1 (2 : Int32) (10 : Int32)))) (tgt := 15) (pc' := 11) hE dX8_begin_8 (by decide) rfl (fun c1 => ?_) (fun c1 => ?_)
  · have c1 := jv_b0 c1
    rw [if_neg c1] at hq2
    refine jv_iconst (v := (1 : Int32)) (pc' := 16) hE dX8_begin_15 rfl (by decide) ?_
    cases hq2
    exact jv_forget [true, true, true] kq2
  · have c1 := jv_b1 c1
    rw [if_pos c1] at hq2
    refine jv_iconst (v := (0 : Int32)) (pc' := 12) hE dX8_begin_11 rfl (by decide) ?_
    refine jv_goto (tgt := 16) hE dX8_begin_12 (by decide) ?_
    cases hq2
    exact jv_forget [true, true, true] kq2
noncomputable def f_X8_isNode (σ : jv_S) (p1 : Int32) : Bool := (f_X8_in σ p1 (0 : Int32) ((σ.1 35 1) - (1 : Int32)))
set_option maxRecDepth 100000 in
set_option maxHeartbeats 4000000 in
theorem ok_X8_isNode {G : jv_G} {l : Launch} {σ : jv_S} {p1 : Int32} {r : Bool} (h : f_X8_isNode σ p1 = r) : jv_Cn G l 2 M_X8_isNode [.ref 35, .int p1] σ (some (.int (jv_b r))) σ := by
  refine jv_of (L0 := [some (.ref 35), some (.int p1)]) (by decide +kernel) (Nat.le_of_ble_eq_true rfl) rfl (jv_okZ _) (fun E e1 e2 hE hret => ?_)
  unfold f_X8_isNode at h
  refine jv_iload_n (x := p1) (pc' := 1) hE dX8_isNode_0 rfl 1 rfl rfl ?_
  refine jv_iconst (v := (0 : Int32)) (pc' := 2) hE dX8_isNode_1 rfl (by decide) ?_
  refine jv_aload_n (x := 35) (pc' := 3) hE dX8_isNode_2 rfl 0 rfl rfl ?_
  refine jv_get (v := .int (σ.1 35 1)) (pc' := 6) hE dX8_isNode_3 rfl lF_X8_7 rfl rfl rfl ?_
  refine jv_iconst (v := (1 : Int32)) (pc' := 7) hE dX8_isNode_6 rfl (by decide) ?_
  refine jv_isub (x := (σ.1 35 1)) (y := (1 : Int32)) (pc' := 8) hE dX8_isNode_7 rfl ?_
  refine jv_callS (pc' := 11) (o := some (.int (jv_b (f_X8_in σ p1 (0 : Int32) ((σ.1 35 1) - (1 : Int32)))))) (σ' := σ) hE dX8_isNode_8 rfl lS_X8_93 (ok_X8_in rfl) rfl (by decide) rfl (Nat.le_of_ble_eq_true rfl) ?_
  show jv_V E 11 [some (.ref 35), some (.int p1)] [.int (jv_b (f_X8_in σ p1 (0 : Int32) ((σ.1 35 1) - (1 : Int32))))] σ
  cases h
  exact hret _ _ dX8_isNode_11
noncomputable def f_X8_areNodes (σ : jv_S) (p1 : Int32) (p2 : Int32) : Bool := jv_lt (if (f_X8_isNode σ p1) = true then (if (f_X8_isNode σ p2) = true then (true) else (false)) else (false)) (fun q2 => q2)
set_option maxRecDepth 100000 in
set_option maxHeartbeats 4000000 in
theorem ok_X8_areNodes {G : jv_G} {l : Launch} {σ : jv_S} {p1 : Int32} {p2 : Int32} {r : Bool} (h : f_X8_areNodes σ p1 p2 = r) : jv_Cn G l 3 M_X8_areNodes [.ref 35, .int p1, .int p2] σ (some (.int (jv_b r))) σ := by
  refine jv_of (L0 := [some (.ref 35), some (.int p1), some (.int p2)]) (by decide +kernel) (Nat.le_of_ble_eq_true rfl) rfl (jv_okZ _) (fun E e1 e2 hE hret => ?_)
  unfold f_X8_areNodes at h
  refine jv_aload_n (x := 35) (pc' := 1) hE dX8_areNodes_0 rfl 0 rfl rfl ?_
  refine jv_iload_n (x := p1) (pc' := 2) hE dX8_areNodes_1 rfl 1 rfl rfl ?_
  refine jv_callV (pc' := 5) (o := some (.int (jv_b (f_X8_isNode σ p1)))) (σ' := σ) hE dX8_areNodes_2 rfl lV_X8_97 (ok_X8_isNode rfl) rfl rfl rfl (by decide) rfl (Nat.le_of_ble_eq_true rfl) ?_
  show jv_V E 5 [some (.ref 35), some (.int p1), some (.int p2)] [.int (jv_b (f_X8_isNode σ p1))] σ
  obtain ⟨q2, hq2, h⟩ := jv_lt_eq h
  have kq2 : jv_V E 21 [none, none, none] [.int (jv_b q2)] σ := by
    cases h
    exact hret _ _ dX8_areNodes_21
  refine jv_if_eq (x := (jv_b (f_X8_isNode σ p1))) (tgt := 20) (pc' := 8) hE dX8_areNodes_5 (by decide) rfl (fun c1 => ?_) (fun c1 => ?_)
  · have c1 := jv_b0 c1
    rw [if_neg c1] at hq2
    refine jv_iconst (v := (0 : Int32)) (pc' := 21) hE dX8_areNodes_20 rfl (by decide) ?_
    cases hq2
    exact jv_forget [false, false, false] kq2
  · have c1 := jv_b1 c1
    rw [if_pos c1] at hq2
    refine jv_aload_n (x := 35) (pc' := 9) hE dX8_areNodes_8 rfl 0 rfl rfl ?_
    refine jv_iload_n (x := p2) (pc' := 10) hE dX8_areNodes_9 rfl 2 rfl rfl ?_
    refine jv_callV (pc' := 13) (o := some (.int (jv_b (f_X8_isNode σ p2)))) (σ' := σ) hE dX8_areNodes_10 rfl lV_X8_97 (ok_X8_isNode rfl) rfl rfl rfl (by decide) rfl (Nat.le_of_ble_eq_true rfl) ?_
    show jv_V E 13 [some (.ref 35), some (.int p1), some (.int p2)] [.int (jv_b (f_X8_isNode σ p2))] σ
    refine jv_if_eq (x := (jv_b (f_X8_isNode σ p2))) (tgt := 20) (pc' := 16) hE dX8_areNodes_13 (by decide) rfl (fun c3 => ?_) (fun c3 => ?_)
    · have c3 := jv_b0 c3
      rw [if_neg c3] at hq2
      refine jv_iconst (v := (0 : Int32)) (pc' := 21) hE dX8_areNodes_20 rfl (by decide) ?_
      cases hq2
      exact jv_forget [false, false, false] kq2
    · have c3 := jv_b1 c3
      rw [if_pos c3] at hq2
      refine jv_iconst (v := (1 : Int32)) (pc' := 17) hE dX8_areNodes_16 rfl (by decide) ?_
      refine jv_goto (tgt := 21) hE dX8_areNodes_17 (by decide) ?_
      cases hq2
      exact jv_forget [false, false, false] kq2
noncomputable def f_X8_areTwo (σ : jv_S) (p1 : Int32) (p2 : Int32) : Bool := jv_lt (if (f_X8_areNodes σ p1 p2) = true then (if p1 = p2 then (false) else (true)) else (false)) (fun q2 => q2)
set_option maxRecDepth 100000 in
set_option maxHeartbeats 4000000 in
theorem ok_X8_areTwo {G : jv_G} {l : Launch} {σ : jv_S} {p1 : Int32} {p2 : Int32} {r : Bool} (h : f_X8_areTwo σ p1 p2 = r) : jv_Cn G l 4 M_X8_areTwo [.ref 35, .int p1, .int p2] σ (some (.int (jv_b r))) σ := by
  refine jv_of (L0 := [some (.ref 35), some (.int p1), some (.int p2)]) (by decide +kernel) (Nat.le_of_ble_eq_true rfl) rfl (jv_okZ _) (fun E e1 e2 hE hret => ?_)
  unfold f_X8_areTwo at h
  refine jv_aload_n (x := 35) (pc' := 1) hE dX8_areTwo_0 rfl 0 rfl rfl ?_
  refine jv_iload_n (x := p1) (pc' := 2) hE dX8_areTwo_1 rfl 1 rfl rfl ?_
  refine jv_iload_n (x := p2) (pc' := 3) hE dX8_areTwo_2 rfl 2 rfl rfl ?_
  refine jv_callV (pc' := 6) (o := some (.int (jv_b (f_X8_areNodes σ p1 p2)))) (σ' := σ) hE dX8_areTwo_3 rfl lV_X8_101 (ok_X8_areNodes rfl) rfl rfl rfl (by decide) rfl (Nat.le_of_ble_eq_true rfl) ?_
  show jv_V E 6 [some (.ref 35), some (.int p1), some (.int p2)] [.int (jv_b (f_X8_areNodes σ p1 p2))] σ
  obtain ⟨q2, hq2, h⟩ := jv_lt_eq h
  have kq2 : jv_V E 19 [none, none, none] [.int (jv_b q2)] σ := by
    cases h
    exact hret _ _ dX8_areTwo_19
  refine jv_if_eq (x := (jv_b (f_X8_areNodes σ p1 p2))) (tgt := 18) (pc' := 9) hE dX8_areTwo_6 (by decide) rfl (fun c1 => ?_) (fun c1 => ?_)
  · have c1 := jv_b0 c1
    rw [if_neg c1] at hq2
    refine jv_iconst (v := (0 : Int32)) (pc' := 19) hE dX8_areTwo_18 rfl (by decide) ?_
    cases hq2
    exact jv_forget [false, false, false] kq2
  · have c1 := jv_b1 c1
    rw [if_pos c1] at hq2
    refine jv_iload_n (x := p1) (pc' := 10) hE dX8_areTwo_9 rfl 1 rfl rfl ?_
    refine jv_iload_n (x := p2) (pc' := 11) hE dX8_areTwo_10 rfl 2 rfl rfl ?_
    refine jv_icmp_eq (x := p1) (y := p2) (tgt := 18) (pc' := 14) hE dX8_areTwo_11 (by decide) rfl (fun c3 => ?_) (fun c3 => ?_)
    · rw [if_pos c3] at hq2
      refine jv_iconst (v := (0 : Int32)) (pc' := 19) hE dX8_areTwo_18 rfl (by decide) ?_
      cases hq2
      exact jv_forget [false, false, false] kq2
    · rw [if_neg c3] at hq2
      refine jv_iconst (v := (1 : Int32)) (pc' := 15) hE dX8_areTwo_14 rfl (by decide) ?_
      refine jv_goto (tgt := 19) hE dX8_areTwo_15 (by decide) ?_
      cases hq2
      exact jv_forget [false, false, false] kq2
noncomputable def f_X8_addEdge (σ : jv_S) (p1 : Int32) (p2 : Int32) (p3 : Int32) : Option (Int32 × jv_S) := jv_lt (if (f_X8_areTwo σ p1 p2) = true then (if (f_X8_in σ p3 (1 : Int32) (1000 : Int32)) = true then (if (σ.1 35 2) = (24 : Int32) then ((2 : Int32)) else ((0 : Int32))) else ((1 : Int32))) else ((1 : Int32))) (fun q2 => jv_lt (f_X8_holds σ q2) (fun q5 => if q5.1 = true then (if jv_ck (q5.2.1 35 2) 24 = true then (if jv_ck (q5.2.1 35 2) 24 = true then (if jv_ck (q5.2.1 35 2) 24 = true then (if jv_ck (q5.2.1 35 2) 24 = true then (jv_lt (f_X8_isChanged (jv_si (jv_si (jv_si (jv_si (jv_si q5.2 36 (q5.2.1 35 2).toNatClampNeg p1) 37 (q5.2.1 35 2).toNatClampNeg p2) 38 (q5.2.1 35 2).toNatClampNeg p3) 39 (q5.2.1 35 2).toNatClampNeg (0 : Int32)) 35 2 ((q5.2.1 35 2) + (1 : Int32)))) (fun q11 => some (((q11.1 35 2) - (1 : Int32)), q11))) else none) else none) else none) else none) else (some ((0 : Int32), q5.2))))
set_option maxRecDepth 100000 in
set_option maxHeartbeats 4000000 in
theorem ok_X8_addEdge {G : jv_G} {l : Launch} {σ : jv_S} {p1 : Int32} {p2 : Int32} {p3 : Int32} {r : Int32 × jv_S} (h : f_X8_addEdge σ p1 p2 p3 = some r) : jv_Cn G l 5 M_X8_addEdge [.ref 35, .int p1, .int p2, .int p3] σ (some (.int r.1)) r.2 := by
  refine jv_of (L0 := [some (.ref 35), some (.int p1), some (.int p2), some (.int p3)]) (by decide +kernel) (Nat.le_of_ble_eq_true rfl) rfl (jv_okI _) (fun E e1 e2 hE hret => ?_)
  unfold f_X8_addEdge at h
  refine jv_aload_n (x := 35) (pc' := 1) hE dX8_addEdge_0 rfl 0 rfl rfl ?_
  refine jv_aload_n (x := 35) (pc' := 2) hE dX8_addEdge_1 rfl 0 rfl rfl ?_
  refine jv_iload_n (x := p1) (pc' := 3) hE dX8_addEdge_2 rfl 1 rfl rfl ?_
  refine jv_iload_n (x := p2) (pc' := 4) hE dX8_addEdge_3 rfl 2 rfl rfl ?_
  refine jv_callV (pc' := 7) (o := some (.int (jv_b (f_X8_areTwo σ p1 p2)))) (σ' := σ) hE dX8_addEdge_4 rfl lV_X8_121 (ok_X8_areTwo rfl) rfl rfl rfl (by decide) rfl (Nat.le_of_ble_eq_true rfl) ?_
  show jv_V E 7 [some (.ref 35), some (.int p1), some (.int p2), some (.int p3)] [.int (jv_b (f_X8_areTwo σ p1 p2)), .ref 35] σ
  obtain ⟨q2, hq2, h⟩ := jv_lt_eq h
  have kq2 : jv_V E 39 [some (.ref 35), some (.int p1), some (.int p2), some (.int p3)] [.int q2, .ref 35] σ := by
    obtain ⟨q5, hq5, h⟩ := jv_lt_eq h
    refine jv_callV (pc' := 42) (o := some (.int (jv_b q5.1))) (σ' := q5.2) hE dX8_addEdge_39 rfl lV_X8_115 (ok_X8_holds hq5) rfl rfl rfl (by decide) rfl (Nat.le_of_ble_eq_true rfl) ?_
    show jv_V E 42 [some (.ref 35), some (.int p1), some (.int p2), some (.int p3)] [.int (jv_b q5.1)] q5.2
    refine jv_if_ne (x := (jv_b q5.1)) (tgt := 47) (pc' := 45) hE dX8_addEdge_42 (by decide) rfl (fun c6 => ?_) (fun c6 => ?_)
    · have c6 := jv_b1 c6
      rw [if_pos c6] at h
      refine jv_aload_n (x := 35) (pc' := 48) hE dX8_addEdge_47 rfl 0 rfl rfl ?_
      refine jv_get (v := .ref 36) (pc' := 51) hE dX8_addEdge_48 rfl lF_X8_13 rfl rfl rfl ?_
      refine jv_aload_n (x := 35) (pc' := 52) hE dX8_addEdge_51 rfl 0 rfl rfl ?_
      refine jv_get (v := .int (q5.2.1 35 2)) (pc' := 55) hE dX8_addEdge_52 rfl lF_X8_105 rfl rfl rfl ?_
      refine jv_iload_n (x := p1) (pc' := 56) hE dX8_addEdge_55 rfl 1 rfl rfl ?_
      by_cases c7 : jv_ck (q5.2.1 35 2) 24 = true
      · rw [if_pos c7] at h
        refine jv_iast (pc' := 57) hE dX8_addEdge_56 rfl rfl (jv_ck_in c7) ?_
        refine jv_aload_n (x := 35) (pc' := 58) hE dX8_addEdge_57 rfl 0 rfl rfl ?_
        refine jv_get (v := .ref 37) (pc' := 61) hE dX8_addEdge_58 rfl lF_X8_17 rfl rfl rfl ?_
        refine jv_aload_n (x := 35) (pc' := 62) hE dX8_addEdge_61 rfl 0 rfl rfl ?_
        refine jv_get (v := .int (q5.2.1 35 2)) (pc' := 65) hE dX8_addEdge_62 rfl lF_X8_105 rfl rfl rfl ?_
        refine jv_iload_n (x := p2) (pc' := 66) hE dX8_addEdge_65 rfl 2 rfl rfl ?_
        by_cases c8 : jv_ck (q5.2.1 35 2) 24 = true
        · rw [if_pos c8] at h
          refine jv_iast (pc' := 67) hE dX8_addEdge_66 rfl rfl (jv_ck_in c8) ?_
          refine jv_aload_n (x := 35) (pc' := 68) hE dX8_addEdge_67 rfl 0 rfl rfl ?_
          refine jv_get (v := .ref 38) (pc' := 71) hE dX8_addEdge_68 rfl lF_X8_20 rfl rfl rfl ?_
          refine jv_aload_n (x := 35) (pc' := 72) hE dX8_addEdge_71 rfl 0 rfl rfl ?_
          refine jv_get (v := .int (q5.2.1 35 2)) (pc' := 75) hE dX8_addEdge_72 rfl lF_X8_105 rfl rfl rfl ?_
          refine jv_iload_n (x := p3) (pc' := 76) hE dX8_addEdge_75 rfl 3 rfl rfl ?_
          by_cases c9 : jv_ck (q5.2.1 35 2) 24 = true
          · rw [if_pos c9] at h
            refine jv_iast (pc' := 77) hE dX8_addEdge_76 rfl rfl (jv_ck_in c9) ?_
            refine jv_aload_n (x := 35) (pc' := 78) hE dX8_addEdge_77 rfl 0 rfl rfl ?_
            refine jv_get (v := .ref 39) (pc' := 81) hE dX8_addEdge_78 rfl lF_X8_23 rfl rfl rfl ?_
            refine jv_aload_n (x := 35) (pc' := 82) hE dX8_addEdge_81 rfl 0 rfl rfl ?_
            refine jv_get (v := .int (q5.2.1 35 2)) (pc' := 85) hE dX8_addEdge_82 rfl lF_X8_105 rfl rfl rfl ?_
            refine jv_iconst (v := (0 : Int32)) (pc' := 86) hE dX8_addEdge_85 rfl (by decide) ?_
            by_cases c10 : jv_ck (q5.2.1 35 2) 24 = true
            · rw [if_pos c10] at h
              refine jv_zast (pc' := 87) hE dX8_addEdge_86 rfl rfl (jv_ck_in c10) (by decide) ?_
              refine jv_aload_n (x := 35) (pc' := 88) hE dX8_addEdge_87 rfl 0 rfl rfl ?_
              refine jv_dup (pc' := 89) hE dX8_addEdge_88 rfl rfl ?_
              refine jv_get (v := .int (q5.2.1 35 2)) (pc' := 92) hE dX8_addEdge_89 rfl lF_X8_105 rfl rfl rfl ?_
              refine jv_iconst (v := (1 : Int32)) (pc' := 93) hE dX8_addEdge_92 rfl (by decide) ?_
              refine jv_iadd (x := (q5.2.1 35 2)) (y := (1 : Int32)) (pc' := 94) hE dX8_addEdge_93 rfl ?_
              refine jv_puti (x := ((q5.2.1 35 2) + (1 : Int32))) (pc' := 97) hE dX8_addEdge_94 rfl lP_X8_105 rfl rfl rfl rfl ?_
              refine jv_aload_n (x := 35) (pc' := 98) hE dX8_addEdge_97 rfl 0 rfl rfl ?_
              obtain ⟨q11, hq11, h⟩ := jv_lt_eq h
              refine jv_callV (pc' := 101) (o := none) (σ' := q11) hE dX8_addEdge_98 rfl lV_X8_118 (ok_X8_isChanged hq11) rfl rfl rfl (by decide) rfl (Nat.le_of_ble_eq_true rfl) ?_
              show jv_V E 101 [some (.ref 35), some (.int p1), some (.int p2), some (.int p3)] [] q11
              refine jv_aload_n (x := 35) (pc' := 102) hE dX8_addEdge_101 rfl 0 rfl rfl ?_
              refine jv_get (v := .int (q11.1 35 2)) (pc' := 105) hE dX8_addEdge_102 rfl lF_X8_105 rfl rfl rfl ?_
              refine jv_iconst (v := (1 : Int32)) (pc' := 106) hE dX8_addEdge_105 rfl (by decide) ?_
              refine jv_isub (x := (q11.1 35 2)) (y := (1 : Int32)) (pc' := 107) hE dX8_addEdge_106 rfl ?_
              cases h
              exact hret _ _ dX8_addEdge_107
            · rw [if_neg c10] at h; cases h
          · rw [if_neg c9] at h; cases h
        · rw [if_neg c8] at h; cases h
      · rw [if_neg c7] at h; cases h
    · have c6 := jv_b0 c6
      rw [if_neg c6] at h
      refine jv_iconst (v := (0 : Int32)) (pc' := 46) hE dX8_addEdge_45 rfl (by decide) ?_
      cases h
      exact hret _ _ dX8_addEdge_46
  refine jv_if_eq (x := (jv_b (f_X8_areTwo σ p1 p2))) (tgt := 21) (pc' := 10) hE dX8_addEdge_7 (by decide) rfl (fun c1 => ?_) (fun c1 => ?_)
  · have c1 := jv_b0 c1
    rw [if_neg c1] at hq2
    refine jv_iconst (v := (1 : Int32)) (pc' := 22) hE dX8_addEdge_21 rfl (by decide) ?_
    refine jv_goto (tgt := 39) hE dX8_addEdge_22 (by decide) ?_
    cases hq2
    exact jv_forget [true, true, true, true] kq2
  · have c1 := jv_b1 c1
    rw [if_pos c1] at hq2
    refine jv_iload_n (x := p3) (pc' := 11) hE dX8_addEdge_10 rfl 3 rfl rfl ?_
    refine jv_iconst (v := (1 : Int32)) (pc' := 12) hE dX8_addEdge_11 rfl (by decide) ?_
    refine jv_sipush (v := (1000 : Int32)) (pc' := 15) hE dX8_addEdge_12 rfl (by decide) ?_
    refine jv_callS (pc' := 18) (o := some (.int (jv_b (f_X8_in σ p3 (1 : Int32) (1000 : Int32))))) (σ' := σ) hE dX8_addEdge_15 rfl lS_X8_93 (ok_X8_in rfl) rfl (by decide) rfl (Nat.le_of_ble_eq_true rfl) ?_
    show jv_V E 18 [some (.ref 35), some (.int p1), some (.int p2), some (.int p3)] [.int (jv_b (f_X8_in σ p3 (1 : Int32) (1000 : Int32))), .ref 35] σ
    refine jv_if_ne (x := (jv_b (f_X8_in σ p3 (1 : Int32) (1000 : Int32)))) (tgt := 25) (pc' := 21) hE dX8_addEdge_18 (by decide) rfl (fun c3 => ?_) (fun c3 => ?_)
    · have c3 := jv_b1 c3
      rw [if_pos c3] at hq2
      refine jv_aload_n (x := 35) (pc' := 26) hE dX8_addEdge_25 rfl 0 rfl rfl ?_
      refine jv_get (v := .int (σ.1 35 2)) (pc' := 29) hE dX8_addEdge_26 rfl lF_X8_105 rfl rfl rfl ?_
      refine jv_bipush (v := (24 : Int32)) (pc' := 31) hE dX8_addEdge_29 rfl (by decide) ?_
      refine jv_icmp_ne (x := (σ.1 35 2)) (y := (24 : Int32)) (tgt := 38) (pc' := 34) hE dX8_addEdge_31 (by decide) rfl (fun c4 => ?_) (fun c4 => ?_)
      · rw [if_neg c4] at hq2
        refine jv_iconst (v := (0 : Int32)) (pc' := 39) hE dX8_addEdge_38 rfl (by decide) ?_
        cases hq2
        exact jv_forget [true, true, true, true] kq2
      · rw [if_pos c4] at hq2
        refine jv_iconst (v := (2 : Int32)) (pc' := 35) hE dX8_addEdge_34 rfl (by decide) ?_
        refine jv_goto (tgt := 39) hE dX8_addEdge_35 (by decide) ?_
        cases hq2
        exact jv_forget [true, true, true, true] kq2
    · have c3 := jv_b0 c3
      rw [if_neg c3] at hq2
      refine jv_iconst (v := (1 : Int32)) (pc' := 22) hE dX8_addEdge_21 rfl (by decide) ?_
      refine jv_goto (tgt := 39) hE dX8_addEdge_22 (by decide) ?_
      cases hq2
      exact jv_forget [true, true, true, true] kq2
noncomputable def f_X8_isEdge (σ : jv_S) (p1 : Int32) : Bool := (f_X8_in σ p1 (0 : Int32) ((σ.1 35 2) - (1 : Int32)))
set_option maxRecDepth 100000 in
set_option maxHeartbeats 4000000 in
theorem ok_X8_isEdge {G : jv_G} {l : Launch} {σ : jv_S} {p1 : Int32} {r : Bool} (h : f_X8_isEdge σ p1 = r) : jv_Cn G l 2 M_X8_isEdge [.ref 35, .int p1] σ (some (.int (jv_b r))) σ := by
  refine jv_of (L0 := [some (.ref 35), some (.int p1)]) (by decide +kernel) (Nat.le_of_ble_eq_true rfl) rfl (jv_okZ _) (fun E e1 e2 hE hret => ?_)
  unfold f_X8_isEdge at h
  refine jv_iload_n (x := p1) (pc' := 1) hE dX8_isEdge_0 rfl 1 rfl rfl ?_
  refine jv_iconst (v := (0 : Int32)) (pc' := 2) hE dX8_isEdge_1 rfl (by decide) ?_
  refine jv_aload_n (x := 35) (pc' := 3) hE dX8_isEdge_2 rfl 0 rfl rfl ?_
  refine jv_get (v := .int (σ.1 35 2)) (pc' := 6) hE dX8_isEdge_3 rfl lF_X8_105 rfl rfl rfl ?_
  refine jv_iconst (v := (1 : Int32)) (pc' := 7) hE dX8_isEdge_6 rfl (by decide) ?_
  refine jv_isub (x := (σ.1 35 2)) (y := (1 : Int32)) (pc' := 8) hE dX8_isEdge_7 rfl ?_
  refine jv_callS (pc' := 11) (o := some (.int (jv_b (f_X8_in σ p1 (0 : Int32) ((σ.1 35 2) - (1 : Int32)))))) (σ' := σ) hE dX8_isEdge_8 rfl lS_X8_93 (ok_X8_in rfl) rfl (by decide) rfl (Nat.le_of_ble_eq_true rfl) ?_
  show jv_V E 11 [some (.ref 35), some (.int p1)] [.int (jv_b (f_X8_in σ p1 (0 : Int32) ((σ.1 35 2) - (1 : Int32))))] σ
  cases h
  exact hret _ _ dX8_isEdge_11
noncomputable def f_X8_setLength (σ : jv_S) (p1 : Int32) (p2 : Int32) : Option (Int32 × jv_S) := jv_lt (if (f_X8_isEdge σ p1) = true then (if (f_X8_in σ p2 (1 : Int32) (1000 : Int32)) = true then (false) else (true)) else (true)) (fun q2 => jv_lt (f_X8_holds σ (jv_b q2)) (fun q4 => if q4.1 = true then (if jv_ck p1 24 = true then (if jv_ck p1 24 = true then (jv_lt (f_X8_isChanged (jv_si q4.2 38 p1.toNatClampNeg p2)) (fun q8 => some ((q4.2.1 38 p1.toNatClampNeg), q8))) else none) else none) else (some ((0 : Int32), q4.2))))
set_option maxRecDepth 100000 in
set_option maxHeartbeats 4000000 in
theorem ok_X8_setLength {G : jv_G} {l : Launch} {σ : jv_S} {p1 : Int32} {p2 : Int32} {r : Int32 × jv_S} (h : f_X8_setLength σ p1 p2 = some r) : jv_Cn G l 3 M_X8_setLength [.ref 35, .int p1, .int p2] σ (some (.int r.1)) r.2 := by
  refine jv_of (L0 := [some (.ref 35), some (.int p1), some (.int p2), none]) (by decide +kernel) (Nat.le_of_ble_eq_true rfl) rfl (jv_okI _) (fun E e1 e2 hE hret => ?_)
  unfold f_X8_setLength at h
  refine jv_aload_n (x := 35) (pc' := 1) hE dX8_setLength_0 rfl 0 rfl rfl ?_
  refine jv_aload_n (x := 35) (pc' := 2) hE dX8_setLength_1 rfl 0 rfl rfl ?_
  refine jv_iload_n (x := p1) (pc' := 3) hE dX8_setLength_2 rfl 1 rfl rfl ?_
  refine jv_callV (pc' := 6) (o := some (.int (jv_b (f_X8_isEdge σ p1)))) (σ' := σ) hE dX8_setLength_3 rfl lV_X8_124 (ok_X8_isEdge rfl) rfl rfl rfl (by decide) rfl (Nat.le_of_ble_eq_true rfl) ?_
  show jv_V E 6 [some (.ref 35), some (.int p1), some (.int p2), none] [.int (jv_b (f_X8_isEdge σ p1)), .ref 35] σ
  obtain ⟨q2, hq2, h⟩ := jv_lt_eq h
  have kq2 : jv_V E 25 [some (.ref 35), some (.int p1), some (.int p2), none] [.int (jv_b q2), .ref 35] σ := by
    obtain ⟨q4, hq4, h⟩ := jv_lt_eq h
    refine jv_callV (pc' := 28) (o := some (.int (jv_b q4.1))) (σ' := q4.2) hE dX8_setLength_25 rfl lV_X8_115 (ok_X8_holds hq4) rfl rfl rfl (by decide) rfl (Nat.le_of_ble_eq_true rfl) ?_
    show jv_V E 28 [some (.ref 35), some (.int p1), some (.int p2), none] [.int (jv_b q4.1)] q4.2
    refine jv_if_ne (x := (jv_b q4.1)) (tgt := 33) (pc' := 31) hE dX8_setLength_28 (by decide) rfl (fun c5 => ?_) (fun c5 => ?_)
    · have c5 := jv_b1 c5
      rw [if_pos c5] at h
      refine jv_aload_n (x := 35) (pc' := 34) hE dX8_setLength_33 rfl 0 rfl rfl ?_
      refine jv_get (v := .ref 38) (pc' := 37) hE dX8_setLength_34 rfl lF_X8_20 rfl rfl rfl ?_
      refine jv_iload_n (x := p1) (pc' := 38) hE dX8_setLength_37 rfl 1 rfl rfl ?_
      by_cases c6 : jv_ck p1 24 = true
      · rw [if_pos c6] at h
        refine jv_iald (pc' := 39) hE dX8_setLength_38 rfl rfl (jv_ck_in c6) ?_
        show jv_V E 39 [some (.ref 35), some (.int p1), some (.int p2), none] [.int (q4.2.1 38 p1.toNatClampNeg)] q4.2
        refine jv_istore_n (x := (q4.2.1 38 p1.toNatClampNeg)) (L' := [some (.ref 35), some (.int p1), some (.int p2), some (.int (q4.2.1 38 p1.toNatClampNeg))]) (pc' := 40) hE dX8_setLength_39 rfl 3 rfl (by decide) rfl rfl ?_
        refine jv_aload_n (x := 35) (pc' := 41) hE dX8_setLength_40 rfl 0 rfl rfl ?_
        refine jv_get (v := .ref 38) (pc' := 44) hE dX8_setLength_41 rfl lF_X8_20 rfl rfl rfl ?_
        refine jv_iload_n (x := p1) (pc' := 45) hE dX8_setLength_44 rfl 1 rfl rfl ?_
        refine jv_iload_n (x := p2) (pc' := 46) hE dX8_setLength_45 rfl 2 rfl rfl ?_
        by_cases c7 : jv_ck p1 24 = true
        · rw [if_pos c7] at h
          refine jv_iast (pc' := 47) hE dX8_setLength_46 rfl rfl (jv_ck_in c7) ?_
          refine jv_aload_n (x := 35) (pc' := 48) hE dX8_setLength_47 rfl 0 rfl rfl ?_
          obtain ⟨q8, hq8, h⟩ := jv_lt_eq h
          refine jv_callV (pc' := 51) (o := none) (σ' := q8) hE dX8_setLength_48 rfl lV_X8_118 (ok_X8_isChanged hq8) rfl rfl rfl (by decide) rfl (Nat.le_of_ble_eq_true rfl) ?_
          show jv_V E 51 [some (.ref 35), some (.int p1), some (.int p2), some (.int (q4.2.1 38 p1.toNatClampNeg))] [] q8
          refine jv_iload_n (x := (q4.2.1 38 p1.toNatClampNeg)) (pc' := 52) hE dX8_setLength_51 rfl 3 rfl rfl ?_
          cases h
          exact hret _ _ dX8_setLength_52
        · rw [if_neg c7] at h; cases h
      · rw [if_neg c6] at h; cases h
    · have c5 := jv_b0 c5
      rw [if_neg c5] at h
      refine jv_iconst (v := (0 : Int32)) (pc' := 32) hE dX8_setLength_31 rfl (by decide) ?_
      cases h
      exact hret _ _ dX8_setLength_32
  refine jv_if_eq (x := (jv_b (f_X8_isEdge σ p1))) (tgt := 24) (pc' := 9) hE dX8_setLength_6 (by decide) rfl (fun c1 => ?_) (fun c1 => ?_)
  · have c1 := jv_b0 c1
    rw [if_neg c1] at hq2
    refine jv_iconst (v := (1 : Int32)) (pc' := 25) hE dX8_setLength_24 rfl (by decide) ?_
    cases hq2
    exact jv_forget [true, true, true, true] kq2
  · have c1 := jv_b1 c1
    rw [if_pos c1] at hq2
    refine jv_iload_n (x := p2) (pc' := 10) hE dX8_setLength_9 rfl 2 rfl rfl ?_
    refine jv_iconst (v := (1 : Int32)) (pc' := 11) hE dX8_setLength_10 rfl (by decide) ?_
    refine jv_sipush (v := (1000 : Int32)) (pc' := 14) hE dX8_setLength_11 rfl (by decide) ?_
    refine jv_callS (pc' := 17) (o := some (.int (jv_b (f_X8_in σ p2 (1 : Int32) (1000 : Int32))))) (σ' := σ) hE dX8_setLength_14 rfl lS_X8_93 (ok_X8_in rfl) rfl (by decide) rfl (Nat.le_of_ble_eq_true rfl) ?_
    show jv_V E 17 [some (.ref 35), some (.int p1), some (.int p2), none] [.int (jv_b (f_X8_in σ p2 (1 : Int32) (1000 : Int32))), .ref 35] σ
    refine jv_if_eq (x := (jv_b (f_X8_in σ p2 (1 : Int32) (1000 : Int32)))) (tgt := 24) (pc' := 20) hE dX8_setLength_17 (by decide) rfl (fun c3 => ?_) (fun c3 => ?_)
    · have c3 := jv_b0 c3
      rw [if_neg c3] at hq2
      refine jv_iconst (v := (1 : Int32)) (pc' := 25) hE dX8_setLength_24 rfl (by decide) ?_
      cases hq2
      exact jv_forget [true, true, true, true] kq2
    · have c3 := jv_b1 c3
      rw [if_pos c3] at hq2
      refine jv_iconst (v := (0 : Int32)) (pc' := 21) hE dX8_setLength_20 rfl (by decide) ?_
      refine jv_goto (tgt := 25) hE dX8_setLength_21 (by decide) ?_
      cases hq2
      exact jv_forget [true, true, true, true] kq2
noncomputable def f_X8_toggleEdge (σ : jv_S) (p1 : Int32) : Option (Bool × jv_S) := jv_lt (if (f_X8_isEdge σ p1) = true then (false) else (true)) (fun q2 => jv_lt (f_X8_holds σ (jv_b q2)) (fun q3 => if q3.1 = true then (if jv_ck p1 24 = true then (jv_lt (if (q3.2.1 39 p1.toNatClampNeg) = 0 then (true) else (false)) (fun q7 => if jv_ck p1 24 = true then (jv_lt (f_X8_isChanged (jv_si q3.2 39 p1.toNatClampNeg (jv_b q7))) (fun q9 => if jv_ck p1 24 = true then (jv_bd (jv_ob (q9.1 39 p1.toNatClampNeg)) (fun q11 => some (q11, q9))) else none)) else none)) else none) else (some (false, q3.2))))
set_option maxRecDepth 100000 in
set_option maxHeartbeats 4000000 in
theorem ok_X8_toggleEdge {G : jv_G} {l : Launch} {σ : jv_S} {p1 : Int32} {r : Bool × jv_S} (h : f_X8_toggleEdge σ p1 = some r) : jv_Cn G l 3 M_X8_toggleEdge [.ref 35, .int p1] σ (some (.int (jv_b r.1))) r.2 := by
  refine jv_of (L0 := [some (.ref 35), some (.int p1)]) (by decide +kernel) (Nat.le_of_ble_eq_true rfl) rfl (jv_okZ _) (fun E e1 e2 hE hret => ?_)
  unfold f_X8_toggleEdge at h
  refine jv_aload_n (x := 35) (pc' := 1) hE dX8_toggleEdge_0 rfl 0 rfl rfl ?_
  refine jv_aload_n (x := 35) (pc' := 2) hE dX8_toggleEdge_1 rfl 0 rfl rfl ?_
  refine jv_iload_n (x := p1) (pc' := 3) hE dX8_toggleEdge_2 rfl 1 rfl rfl ?_
  refine jv_callV (pc' := 6) (o := some (.int (jv_b (f_X8_isEdge σ p1)))) (σ' := σ) hE dX8_toggleEdge_3 rfl lV_X8_124 (ok_X8_isEdge rfl) rfl rfl rfl (by decide) rfl (Nat.le_of_ble_eq_true rfl) ?_
  show jv_V E 6 [some (.ref 35), some (.int p1)] [.int (jv_b (f_X8_isEdge σ p1)), .ref 35] σ
  obtain ⟨q2, hq2, h⟩ := jv_lt_eq h
  have kq2 : jv_V E 14 [some (.ref 35), some (.int p1)] [.int (jv_b q2), .ref 35] σ := by
    obtain ⟨q3, hq3, h⟩ := jv_lt_eq h
    refine jv_callV (pc' := 17) (o := some (.int (jv_b q3.1))) (σ' := q3.2) hE dX8_toggleEdge_14 rfl lV_X8_115 (ok_X8_holds hq3) rfl rfl rfl (by decide) rfl (Nat.le_of_ble_eq_true rfl) ?_
    show jv_V E 17 [some (.ref 35), some (.int p1)] [.int (jv_b q3.1)] q3.2
    refine jv_if_ne (x := (jv_b q3.1)) (tgt := 22) (pc' := 20) hE dX8_toggleEdge_17 (by decide) rfl (fun c4 => ?_) (fun c4 => ?_)
    · have c4 := jv_b1 c4
      rw [if_pos c4] at h
      refine jv_aload_n (x := 35) (pc' := 23) hE dX8_toggleEdge_22 rfl 0 rfl rfl ?_
      refine jv_get (v := .ref 39) (pc' := 26) hE dX8_toggleEdge_23 rfl lF_X8_23 rfl rfl rfl ?_
      refine jv_iload_n (x := p1) (pc' := 27) hE dX8_toggleEdge_26 rfl 1 rfl rfl ?_
      refine jv_aload_n (x := 35) (pc' := 28) hE dX8_toggleEdge_27 rfl 0 rfl rfl ?_
      refine jv_get (v := .ref 39) (pc' := 31) hE dX8_toggleEdge_28 rfl lF_X8_23 rfl rfl rfl ?_
      refine jv_iload_n (x := p1) (pc' := 32) hE dX8_toggleEdge_31 rfl 1 rfl rfl ?_
      by_cases c5 : jv_ck p1 24 = true
      · rw [if_pos c5] at h
        refine jv_zald (pc' := 33) hE dX8_toggleEdge_32 rfl rfl (jv_ck_in c5) ?_
        show jv_V E 33 [some (.ref 35), some (.int p1)] [.int (q3.2.1 39 p1.toNatClampNeg), .int p1, .ref 39] q3.2
        obtain ⟨q7, hq7, h⟩ := jv_lt_eq h
        have kq7 : jv_V E 41 [some (.ref 35), some (.int p1)] [.int (jv_b q7), .int p1, .ref 39] q3.2 := by
          by_cases c8 : jv_ck p1 24 = true
          · rw [if_pos c8] at h
            refine jv_zast (pc' := 42) hE dX8_toggleEdge_41 rfl rfl (jv_ck_in c8) (jv_narb _) ?_
            refine jv_aload_n (x := 35) (pc' := 43) hE dX8_toggleEdge_42 rfl 0 rfl rfl ?_
            obtain ⟨q9, hq9, h⟩ := jv_lt_eq h
            refine jv_callV (pc' := 46) (o := none) (σ' := q9) hE dX8_toggleEdge_43 rfl lV_X8_118 (ok_X8_isChanged hq9) rfl rfl rfl (by decide) rfl (Nat.le_of_ble_eq_true rfl) ?_
            show jv_V E 46 [some (.ref 35), some (.int p1)] [] q9
            refine jv_aload_n (x := 35) (pc' := 47) hE dX8_toggleEdge_46 rfl 0 rfl rfl ?_
            refine jv_get (v := .ref 39) (pc' := 50) hE dX8_toggleEdge_47 rfl lF_X8_23 rfl rfl rfl ?_
            refine jv_iload_n (x := p1) (pc' := 51) hE dX8_toggleEdge_50 rfl 1 rfl rfl ?_
            by_cases c10 : jv_ck p1 24 = true
            · rw [if_pos c10] at h
              refine jv_zald (pc' := 52) hE dX8_toggleEdge_51 rfl rfl (jv_ck_in c10) ?_
              show jv_V E 52 [some (.ref 35), some (.int p1)] [.int (q9.1 39 p1.toNatClampNeg)] q9
              obtain ⟨q11, hq11, h⟩ := jv_bd_some h
              refine jv_topI (jv_ob_eq hq11) ?_
              cases h
              exact hret _ _ dX8_toggleEdge_52
            · rw [if_neg c10] at h; cases h
          · rw [if_neg c8] at h; cases h
        refine jv_if_ne (x := (q3.2.1 39 p1.toNatClampNeg)) (tgt := 40) (pc' := 36) hE dX8_toggleEdge_33 (by decide) rfl (fun c6 => ?_) (fun c6 => ?_)
        · rw [if_neg c6] at hq7
          refine jv_iconst (v := (0 : Int32)) (pc' := 41) hE dX8_toggleEdge_40 rfl (by decide) ?_
          cases hq7
          exact jv_forget [true, true] kq7
        · rw [if_pos c6] at hq7
          refine jv_iconst (v := (1 : Int32)) (pc' := 37) hE dX8_toggleEdge_36 rfl (by decide) ?_
          refine jv_goto (tgt := 41) hE dX8_toggleEdge_37 (by decide) ?_
          cases hq7
          exact jv_forget [true, true] kq7
      · rw [if_neg c5] at h; cases h
    · have c4 := jv_b0 c4
      rw [if_neg c4] at h
      refine jv_iconst (v := (0 : Int32)) (pc' := 21) hE dX8_toggleEdge_20 rfl (by decide) ?_
      cases h
      exact hret _ _ dX8_toggleEdge_21
  refine jv_if_eq (x := (jv_b (f_X8_isEdge σ p1))) (tgt := 13) (pc' := 9) hE dX8_toggleEdge_6 (by decide) rfl (fun c1 => ?_) (fun c1 => ?_)
  · have c1 := jv_b0 c1
    rw [if_neg c1] at hq2
    refine jv_iconst (v := (1 : Int32)) (pc' := 14) hE dX8_toggleEdge_13 rfl (by decide) ?_
    cases hq2
    exact jv_forget [true, true] kq2
  · have c1 := jv_b1 c1
    rw [if_pos c1] at hq2
    refine jv_iconst (v := (0 : Int32)) (pc' := 10) hE dX8_toggleEdge_9 rfl (by decide) ?_
    refine jv_goto (tgt := 14) hE dX8_toggleEdge_10 (by decide) ?_
    cases hq2
    exact jv_forget [true, true] kq2
noncomputable def f_X8_toggleNode (σ : jv_S) (p1 : Int32) : Option (Bool × jv_S) := jv_lt (if (f_X8_isNode σ p1) = true then (false) else (true)) (fun q2 => jv_lt (f_X8_holds σ (jv_b q2)) (fun q3 => if q3.1 = true then (if jv_ck p1 10 = true then (jv_lt (if (q3.2.1 40 p1.toNatClampNeg) = 0 then (true) else (false)) (fun q7 => if jv_ck p1 10 = true then (jv_lt (f_X8_isChanged (jv_si q3.2 40 p1.toNatClampNeg (jv_b q7))) (fun q9 => if jv_ck p1 10 = true then (jv_bd (jv_ob (q9.1 40 p1.toNatClampNeg)) (fun q11 => some (q11, q9))) else none)) else none)) else none) else (some (false, q3.2))))
set_option maxRecDepth 100000 in
set_option maxHeartbeats 4000000 in
theorem ok_X8_toggleNode {G : jv_G} {l : Launch} {σ : jv_S} {p1 : Int32} {r : Bool × jv_S} (h : f_X8_toggleNode σ p1 = some r) : jv_Cn G l 3 M_X8_toggleNode [.ref 35, .int p1] σ (some (.int (jv_b r.1))) r.2 := by
  refine jv_of (L0 := [some (.ref 35), some (.int p1)]) (by decide +kernel) (Nat.le_of_ble_eq_true rfl) rfl (jv_okZ _) (fun E e1 e2 hE hret => ?_)
  unfold f_X8_toggleNode at h
  refine jv_aload_n (x := 35) (pc' := 1) hE dX8_toggleNode_0 rfl 0 rfl rfl ?_
  refine jv_aload_n (x := 35) (pc' := 2) hE dX8_toggleNode_1 rfl 0 rfl rfl ?_
  refine jv_iload_n (x := p1) (pc' := 3) hE dX8_toggleNode_2 rfl 1 rfl rfl ?_
  refine jv_callV (pc' := 6) (o := some (.int (jv_b (f_X8_isNode σ p1)))) (σ' := σ) hE dX8_toggleNode_3 rfl lV_X8_97 (ok_X8_isNode rfl) rfl rfl rfl (by decide) rfl (Nat.le_of_ble_eq_true rfl) ?_
  show jv_V E 6 [some (.ref 35), some (.int p1)] [.int (jv_b (f_X8_isNode σ p1)), .ref 35] σ
  obtain ⟨q2, hq2, h⟩ := jv_lt_eq h
  have kq2 : jv_V E 14 [some (.ref 35), some (.int p1)] [.int (jv_b q2), .ref 35] σ := by
    obtain ⟨q3, hq3, h⟩ := jv_lt_eq h
    refine jv_callV (pc' := 17) (o := some (.int (jv_b q3.1))) (σ' := q3.2) hE dX8_toggleNode_14 rfl lV_X8_115 (ok_X8_holds hq3) rfl rfl rfl (by decide) rfl (Nat.le_of_ble_eq_true rfl) ?_
    show jv_V E 17 [some (.ref 35), some (.int p1)] [.int (jv_b q3.1)] q3.2
    refine jv_if_ne (x := (jv_b q3.1)) (tgt := 22) (pc' := 20) hE dX8_toggleNode_17 (by decide) rfl (fun c4 => ?_) (fun c4 => ?_)
    · have c4 := jv_b1 c4
      rw [if_pos c4] at h
      refine jv_aload_n (x := 35) (pc' := 23) hE dX8_toggleNode_22 rfl 0 rfl rfl ?_
      refine jv_get (v := .ref 40) (pc' := 26) hE dX8_toggleNode_23 rfl lF_X8_27 rfl rfl rfl ?_
      refine jv_iload_n (x := p1) (pc' := 27) hE dX8_toggleNode_26 rfl 1 rfl rfl ?_
      refine jv_aload_n (x := 35) (pc' := 28) hE dX8_toggleNode_27 rfl 0 rfl rfl ?_
      refine jv_get (v := .ref 40) (pc' := 31) hE dX8_toggleNode_28 rfl lF_X8_27 rfl rfl rfl ?_
      refine jv_iload_n (x := p1) (pc' := 32) hE dX8_toggleNode_31 rfl 1 rfl rfl ?_
      by_cases c5 : jv_ck p1 10 = true
      · rw [if_pos c5] at h
        refine jv_zald (pc' := 33) hE dX8_toggleNode_32 rfl rfl (jv_ck_in c5) ?_
        show jv_V E 33 [some (.ref 35), some (.int p1)] [.int (q3.2.1 40 p1.toNatClampNeg), .int p1, .ref 40] q3.2
        obtain ⟨q7, hq7, h⟩ := jv_lt_eq h
        have kq7 : jv_V E 41 [some (.ref 35), some (.int p1)] [.int (jv_b q7), .int p1, .ref 40] q3.2 := by
          by_cases c8 : jv_ck p1 10 = true
          · rw [if_pos c8] at h
            refine jv_zast (pc' := 42) hE dX8_toggleNode_41 rfl rfl (jv_ck_in c8) (jv_narb _) ?_
            refine jv_aload_n (x := 35) (pc' := 43) hE dX8_toggleNode_42 rfl 0 rfl rfl ?_
            obtain ⟨q9, hq9, h⟩ := jv_lt_eq h
            refine jv_callV (pc' := 46) (o := none) (σ' := q9) hE dX8_toggleNode_43 rfl lV_X8_118 (ok_X8_isChanged hq9) rfl rfl rfl (by decide) rfl (Nat.le_of_ble_eq_true rfl) ?_
            show jv_V E 46 [some (.ref 35), some (.int p1)] [] q9
            refine jv_aload_n (x := 35) (pc' := 47) hE dX8_toggleNode_46 rfl 0 rfl rfl ?_
            refine jv_get (v := .ref 40) (pc' := 50) hE dX8_toggleNode_47 rfl lF_X8_27 rfl rfl rfl ?_
            refine jv_iload_n (x := p1) (pc' := 51) hE dX8_toggleNode_50 rfl 1 rfl rfl ?_
            by_cases c10 : jv_ck p1 10 = true
            · rw [if_pos c10] at h
              refine jv_zald (pc' := 52) hE dX8_toggleNode_51 rfl rfl (jv_ck_in c10) ?_
              show jv_V E 52 [some (.ref 35), some (.int p1)] [.int (q9.1 40 p1.toNatClampNeg)] q9
              obtain ⟨q11, hq11, h⟩ := jv_bd_some h
              refine jv_topI (jv_ob_eq hq11) ?_
              cases h
              exact hret _ _ dX8_toggleNode_52
            · rw [if_neg c10] at h; cases h
          · rw [if_neg c8] at h; cases h
        refine jv_if_ne (x := (q3.2.1 40 p1.toNatClampNeg)) (tgt := 40) (pc' := 36) hE dX8_toggleNode_33 (by decide) rfl (fun c6 => ?_) (fun c6 => ?_)
        · rw [if_neg c6] at hq7
          refine jv_iconst (v := (0 : Int32)) (pc' := 41) hE dX8_toggleNode_40 rfl (by decide) ?_
          cases hq7
          exact jv_forget [true, true] kq7
        · rw [if_pos c6] at hq7
          refine jv_iconst (v := (1 : Int32)) (pc' := 37) hE dX8_toggleNode_36 rfl (by decide) ?_
          refine jv_goto (tgt := 41) hE dX8_toggleNode_37 (by decide) ?_
          cases hq7
          exact jv_forget [true, true] kq7
      · rw [if_neg c5] at h; cases h
    · have c4 := jv_b0 c4
      rw [if_neg c4] at h
      refine jv_iconst (v := (0 : Int32)) (pc' := 21) hE dX8_toggleNode_20 rfl (by decide) ?_
      cases h
      exact hret _ _ dX8_toggleNode_21
  refine jv_if_eq (x := (jv_b (f_X8_isNode σ p1))) (tgt := 13) (pc' := 9) hE dX8_toggleNode_6 (by decide) rfl (fun c1 => ?_) (fun c1 => ?_)
  · have c1 := jv_b0 c1
    rw [if_neg c1] at hq2
    refine jv_iconst (v := (1 : Int32)) (pc' := 14) hE dX8_toggleNode_13 rfl (by decide) ?_
    cases hq2
    exact jv_forget [true, true] kq2
  · have c1 := jv_b1 c1
    rw [if_pos c1] at hq2
    refine jv_iconst (v := (0 : Int32)) (pc' := 10) hE dX8_toggleNode_9 rfl (by decide) ?_
    refine jv_goto (tgt := 14) hE dX8_toggleNode_10 (by decide) ?_
    cases hq2
    exact jv_forget [true, true] kq2
noncomputable def f_X8_toggleTurn (σ : jv_S) (p1 : Int32) (p2 : Int32) : Option (Bool × jv_S) := jv_bd (if (f_X8_isEdge σ p1) = true then (if (f_X8_isEdge σ p2) = true then (if jv_ck p2 24 = true then (if jv_ck p1 24 = true then (if (σ.1 36 p2.toNatClampNeg) = (σ.1 37 p1.toNatClampNeg) then (some false) else (some true)) else none) else none) else (some true)) else (some true)) (fun q2 => jv_lt (f_X8_holds σ (jv_b q2)) (fun q7 => if q7.1 = true then (if jv_ck (((24 : Int32) * p1) + p2) 576 = true then (jv_lt (if (q7.2.1 41 (((24 : Int32) * p1) + p2).toNatClampNeg) = 0 then (true) else (false)) (fun q11 => if jv_ck (((24 : Int32) * p1) + p2) 576 = true then (if jv_ck (((24 : Int32) * p1) + p2) 576 = true then (jv_bd (jv_ob ((jv_si q7.2 41 (((24 : Int32) * p1) + p2).toNatClampNeg (jv_b q11)).1 41 (((24 : Int32) * p1) + p2).toNatClampNeg)) (fun q14 => some (q14, (jv_si q7.2 41 (((24 : Int32) * p1) + p2).toNatClampNeg (jv_b q11))))) else none) else none)) else none) else (some (false, q7.2))))
set_option maxRecDepth 100000 in
set_option maxHeartbeats 4000000 in
theorem ok_X8_toggleTurn {G : jv_G} {l : Launch} {σ : jv_S} {p1 : Int32} {p2 : Int32} {r : Bool × jv_S} (h : f_X8_toggleTurn σ p1 p2 = some r) : jv_Cn G l 3 M_X8_toggleTurn [.ref 35, .int p1, .int p2] σ (some (.int (jv_b r.1))) r.2 := by
  refine jv_of (L0 := [some (.ref 35), some (.int p1), some (.int p2), none]) (by decide +kernel) (Nat.le_of_ble_eq_true rfl) rfl (jv_okZ _) (fun E e1 e2 hE hret => ?_)
  unfold f_X8_toggleTurn at h
  refine jv_aload_n (x := 35) (pc' := 1) hE dX8_toggleTurn_0 rfl 0 rfl rfl ?_
  refine jv_aload_n (x := 35) (pc' := 2) hE dX8_toggleTurn_1 rfl 0 rfl rfl ?_
  refine jv_iload_n (x := p1) (pc' := 3) hE dX8_toggleTurn_2 rfl 1 rfl rfl ?_
  refine jv_callV (pc' := 6) (o := some (.int (jv_b (f_X8_isEdge σ p1)))) (σ' := σ) hE dX8_toggleTurn_3 rfl lV_X8_124 (ok_X8_isEdge rfl) rfl rfl rfl (by decide) rfl (Nat.le_of_ble_eq_true rfl) ?_
  show jv_V E 6 [some (.ref 35), some (.int p1), some (.int p2), none] [.int (jv_b (f_X8_isEdge σ p1)), .ref 35] σ
  obtain ⟨q2, hq2, h⟩ := jv_bd_some h
  have kq2 : jv_V E 37 [some (.ref 35), some (.int p1), some (.int p2), none] [.int (jv_b q2), .ref 35] σ := by
    obtain ⟨q7, hq7, h⟩ := jv_lt_eq h
    refine jv_callV (pc' := 40) (o := some (.int (jv_b q7.1))) (σ' := q7.2) hE dX8_toggleTurn_37 rfl lV_X8_115 (ok_X8_holds hq7) rfl rfl rfl (by decide) rfl (Nat.le_of_ble_eq_true rfl) ?_
    show jv_V E 40 [some (.ref 35), some (.int p1), some (.int p2), none] [.int (jv_b q7.1)] q7.2
    refine jv_if_ne (x := (jv_b q7.1)) (tgt := 45) (pc' := 43) hE dX8_toggleTurn_40 (by decide) rfl (fun c8 => ?_) (fun c8 => ?_)
    · have c8 := jv_b1 c8
      rw [if_pos c8] at h
      refine jv_bipush (v := (24 : Int32)) (pc' := 47) hE dX8_toggleTurn_45 rfl (by decide) ?_
      refine jv_iload_n (x := p1) (pc' := 48) hE dX8_toggleTurn_47 rfl 1 rfl rfl ?_
      refine jv_imul (x := (24 : Int32)) (y := p1) (pc' := 49) hE dX8_toggleTurn_48 rfl ?_
      refine jv_iload_n (x := p2) (pc' := 50) hE dX8_toggleTurn_49 rfl 2 rfl rfl ?_
      refine jv_iadd (x := ((24 : Int32) * p1)) (y := p2) (pc' := 51) hE dX8_toggleTurn_50 rfl ?_
      refine jv_istore_n (x := (((24 : Int32) * p1) + p2)) (L' := [some (.ref 35), some (.int p1), some (.int p2), some (.int (((24 : Int32) * p1) + p2))]) (pc' := 52) hE dX8_toggleTurn_51 rfl 3 rfl (by decide) rfl rfl ?_
      refine jv_aload_n (x := 35) (pc' := 53) hE dX8_toggleTurn_52 rfl 0 rfl rfl ?_
      refine jv_get (v := .ref 41) (pc' := 56) hE dX8_toggleTurn_53 rfl lF_X8_30 rfl rfl rfl ?_
      refine jv_iload_n (x := (((24 : Int32) * p1) + p2)) (pc' := 57) hE dX8_toggleTurn_56 rfl 3 rfl rfl ?_
      refine jv_aload_n (x := 35) (pc' := 58) hE dX8_toggleTurn_57 rfl 0 rfl rfl ?_
      refine jv_get (v := .ref 41) (pc' := 61) hE dX8_toggleTurn_58 rfl lF_X8_30 rfl rfl rfl ?_
      refine jv_iload_n (x := (((24 : Int32) * p1) + p2)) (pc' := 62) hE dX8_toggleTurn_61 rfl 3 rfl rfl ?_
      by_cases c9 : jv_ck (((24 : Int32) * p1) + p2) 576 = true
      · rw [if_pos c9] at h
        refine jv_zald (pc' := 63) hE dX8_toggleTurn_62 rfl rfl (jv_ck_in c9) ?_
        show jv_V E 63 [some (.ref 35), some (.int p1), some (.int p2), some (.int (((24 : Int32) * p1) + p2))] [.int (q7.2.1 41 (((24 : Int32) * p1) + p2).toNatClampNeg), .int (((24 : Int32) * p1) + p2), .ref 41] q7.2
        obtain ⟨q11, hq11, h⟩ := jv_lt_eq h
        have kq11 : jv_V E 71 [some (.ref 35), none, none, some (.int (((24 : Int32) * p1) + p2))] [.int (jv_b q11), .int (((24 : Int32) * p1) + p2), .ref 41] q7.2 := by
          by_cases c12 : jv_ck (((24 : Int32) * p1) + p2) 576 = true
          · rw [if_pos c12] at h
            refine jv_zast (pc' := 72) hE dX8_toggleTurn_71 rfl rfl (jv_ck_in c12) (jv_narb _) ?_
            refine jv_aload_n (x := 35) (pc' := 73) hE dX8_toggleTurn_72 rfl 0 rfl rfl ?_
            refine jv_get (v := .ref 41) (pc' := 76) hE dX8_toggleTurn_73 rfl lF_X8_30 rfl rfl rfl ?_
            refine jv_iload_n (x := (((24 : Int32) * p1) + p2)) (pc' := 77) hE dX8_toggleTurn_76 rfl 3 rfl rfl ?_
            by_cases c13 : jv_ck (((24 : Int32) * p1) + p2) 576 = true
            · rw [if_pos c13] at h
              refine jv_zald (pc' := 78) hE dX8_toggleTurn_77 rfl rfl (jv_ck_in c13) ?_
              show jv_V E 78 [some (.ref 35), none, none, some (.int (((24 : Int32) * p1) + p2))] [.int ((jv_si q7.2 41 (((24 : Int32) * p1) + p2).toNatClampNeg (jv_b q11)).1 41 (((24 : Int32) * p1) + p2).toNatClampNeg)] (jv_si q7.2 41 (((24 : Int32) * p1) + p2).toNatClampNeg (jv_b q11))
              obtain ⟨q14, hq14, h⟩ := jv_bd_some h
              refine jv_topI (jv_ob_eq hq14) ?_
              cases h
              exact hret _ _ dX8_toggleTurn_78
            · rw [if_neg c13] at h; cases h
          · rw [if_neg c12] at h; cases h
        refine jv_if_ne (x := (q7.2.1 41 (((24 : Int32) * p1) + p2).toNatClampNeg)) (tgt := 70) (pc' := 66) hE dX8_toggleTurn_63 (by decide) rfl (fun c10 => ?_) (fun c10 => ?_)
        · rw [if_neg c10] at hq11
          refine jv_iconst (v := (0 : Int32)) (pc' := 71) hE dX8_toggleTurn_70 rfl (by decide) ?_
          cases hq11
          exact jv_forget [true, false, false, true] kq11
        · rw [if_pos c10] at hq11
          refine jv_iconst (v := (1 : Int32)) (pc' := 67) hE dX8_toggleTurn_66 rfl (by decide) ?_
          refine jv_goto (tgt := 71) hE dX8_toggleTurn_67 (by decide) ?_
          cases hq11
          exact jv_forget [true, false, false, true] kq11
      · rw [if_neg c9] at h; cases h
    · have c8 := jv_b0 c8
      rw [if_neg c8] at h
      refine jv_iconst (v := (0 : Int32)) (pc' := 44) hE dX8_toggleTurn_43 rfl (by decide) ?_
      cases h
      exact hret _ _ dX8_toggleTurn_44
  refine jv_if_eq (x := (jv_b (f_X8_isEdge σ p1))) (tgt := 36) (pc' := 9) hE dX8_toggleTurn_6 (by decide) rfl (fun c1 => ?_) (fun c1 => ?_)
  · have c1 := jv_b0 c1
    rw [if_neg c1] at hq2
    refine jv_iconst (v := (1 : Int32)) (pc' := 37) hE dX8_toggleTurn_36 rfl (by decide) ?_
    cases hq2
    exact jv_forget [true, true, true, true] kq2
  · have c1 := jv_b1 c1
    rw [if_pos c1] at hq2
    refine jv_aload_n (x := 35) (pc' := 10) hE dX8_toggleTurn_9 rfl 0 rfl rfl ?_
    refine jv_iload_n (x := p2) (pc' := 11) hE dX8_toggleTurn_10 rfl 2 rfl rfl ?_
    refine jv_callV (pc' := 14) (o := some (.int (jv_b (f_X8_isEdge σ p2)))) (σ' := σ) hE dX8_toggleTurn_11 rfl lV_X8_124 (ok_X8_isEdge rfl) rfl rfl rfl (by decide) rfl (Nat.le_of_ble_eq_true rfl) ?_
    show jv_V E 14 [some (.ref 35), some (.int p1), some (.int p2), none] [.int (jv_b (f_X8_isEdge σ p2)), .ref 35] σ
    refine jv_if_eq (x := (jv_b (f_X8_isEdge σ p2))) (tgt := 36) (pc' := 17) hE dX8_toggleTurn_14 (by decide) rfl (fun c3 => ?_) (fun c3 => ?_)
    · have c3 := jv_b0 c3
      rw [if_neg c3] at hq2
      refine jv_iconst (v := (1 : Int32)) (pc' := 37) hE dX8_toggleTurn_36 rfl (by decide) ?_
      cases hq2
      exact jv_forget [true, true, true, true] kq2
    · have c3 := jv_b1 c3
      rw [if_pos c3] at hq2
      refine jv_aload_n (x := 35) (pc' := 18) hE dX8_toggleTurn_17 rfl 0 rfl rfl ?_
      refine jv_get (v := .ref 36) (pc' := 21) hE dX8_toggleTurn_18 rfl lF_X8_13 rfl rfl rfl ?_
      refine jv_iload_n (x := p2) (pc' := 22) hE dX8_toggleTurn_21 rfl 2 rfl rfl ?_
      by_cases c4 : jv_ck p2 24 = true
      · rw [if_pos c4] at hq2
        refine jv_iald (pc' := 23) hE dX8_toggleTurn_22 rfl rfl (jv_ck_in c4) ?_
        show jv_V E 23 [some (.ref 35), some (.int p1), some (.int p2), none] [.int (σ.1 36 p2.toNatClampNeg), .ref 35] σ
        refine jv_aload_n (x := 35) (pc' := 24) hE dX8_toggleTurn_23 rfl 0 rfl rfl ?_
        refine jv_get (v := .ref 37) (pc' := 27) hE dX8_toggleTurn_24 rfl lF_X8_17 rfl rfl rfl ?_
        refine jv_iload_n (x := p1) (pc' := 28) hE dX8_toggleTurn_27 rfl 1 rfl rfl ?_
        by_cases c5 : jv_ck p1 24 = true
        · rw [if_pos c5] at hq2
          refine jv_iald (pc' := 29) hE dX8_toggleTurn_28 rfl rfl (jv_ck_in c5) ?_
          show jv_V E 29 [some (.ref 35), some (.int p1), some (.int p2), none] [.int (σ.1 37 p1.toNatClampNeg), .int (σ.1 36 p2.toNatClampNeg), .ref 35] σ
          refine jv_icmp_ne (x := (σ.1 36 p2.toNatClampNeg)) (y := (σ.1 37 p1.toNatClampNeg)) (tgt := 36) (pc' := 32) hE dX8_toggleTurn_29 (by decide) rfl (fun c6 => ?_) (fun c6 => ?_)
          · rw [if_neg c6] at hq2
            refine jv_iconst (v := (1 : Int32)) (pc' := 37) hE dX8_toggleTurn_36 rfl (by decide) ?_
            cases hq2
            exact jv_forget [true, true, true, true] kq2
          · rw [if_pos c6] at hq2
            refine jv_iconst (v := (0 : Int32)) (pc' := 33) hE dX8_toggleTurn_32 rfl (by decide) ?_
            refine jv_goto (tgt := 37) hE dX8_toggleTurn_33 (by decide) ?_
            cases hq2
            exact jv_forget [true, true, true, true] kq2
        · rw [if_neg c5] at hq2; cases hq2
      · rw [if_neg c4] at hq2; cases hq2
noncomputable def f_X8_nodes (σ : jv_S) : Int32 × jv_S := ((σ.1 35 1), (jv_si σ 35 0 (0 : Int32)))
set_option maxRecDepth 100000 in
set_option maxHeartbeats 4000000 in
theorem ok_X8_nodes {G : jv_G} {l : Launch} {σ : jv_S} {r : Int32 × jv_S} (h : f_X8_nodes σ = r) : jv_Cn G l 1 M_X8_nodes [.ref 35] σ (some (.int r.1)) r.2 := by
  refine jv_of (L0 := [some (.ref 35)]) (by decide +kernel) (Nat.le_of_ble_eq_true rfl) rfl (jv_okI _) (fun E e1 e2 hE hret => ?_)
  unfold f_X8_nodes at h
  refine jv_aload_n (x := 35) (pc' := 1) hE dX8_nodes_0 rfl 0 rfl rfl ?_
  refine jv_iconst (v := (0 : Int32)) (pc' := 2) hE dX8_nodes_1 rfl (by decide) ?_
  refine jv_puti (x := (0 : Int32)) (pc' := 5) hE dX8_nodes_2 rfl lP_X8_90 rfl rfl rfl rfl ?_
  refine jv_aload_n (x := 35) (pc' := 6) hE dX8_nodes_5 rfl 0 rfl rfl ?_
  refine jv_get (v := .int (σ.1 35 1)) (pc' := 9) hE dX8_nodes_6 rfl lF_X8_7 rfl rfl rfl ?_
  cases h
  exact hret _ _ dX8_nodes_9
noncomputable def f_X8_edges (σ : jv_S) : Int32 × jv_S := ((σ.1 35 2), (jv_si σ 35 0 (0 : Int32)))
set_option maxRecDepth 100000 in
set_option maxHeartbeats 4000000 in
theorem ok_X8_edges {G : jv_G} {l : Launch} {σ : jv_S} {r : Int32 × jv_S} (h : f_X8_edges σ = r) : jv_Cn G l 1 M_X8_edges [.ref 35] σ (some (.int r.1)) r.2 := by
  refine jv_of (L0 := [some (.ref 35)]) (by decide +kernel) (Nat.le_of_ble_eq_true rfl) rfl (jv_okI _) (fun E e1 e2 hE hret => ?_)
  unfold f_X8_edges at h
  refine jv_aload_n (x := 35) (pc' := 1) hE dX8_edges_0 rfl 0 rfl rfl ?_
  refine jv_iconst (v := (0 : Int32)) (pc' := 2) hE dX8_edges_1 rfl (by decide) ?_
  refine jv_puti (x := (0 : Int32)) (pc' := 5) hE dX8_edges_2 rfl lP_X8_90 rfl rfl rfl rfl ?_
  refine jv_aload_n (x := 35) (pc' := 6) hE dX8_edges_5 rfl 0 rfl rfl ?_
  refine jv_get (v := .int (σ.1 35 2)) (pc' := 9) hE dX8_edges_6 rfl lF_X8_105 rfl rfl rfl ?_
  cases h
  exact hret _ _ dX8_edges_9
noncomputable def f_X8_isUsable (σ : jv_S) (p1 : Int32) : Option (Bool) := if jv_ck p1 24 = true then (jv_bd (if (σ.1 39 p1.toNatClampNeg) = 0 then (if jv_ck p1 24 = true then (if jv_ck (σ.1 36 p1.toNatClampNeg) 10 = true then (if (σ.1 40 (σ.1 36 p1.toNatClampNeg).toNatClampNeg) = 0 then (if jv_ck p1 24 = true then (if jv_ck (σ.1 37 p1.toNatClampNeg) 10 = true then (if (σ.1 40 (σ.1 37 p1.toNatClampNeg).toNatClampNeg) = 0 then (some true) else (some false)) else none) else none) else (some false)) else none) else none) else (some false)) (fun q3 => some q3)) else none
set_option maxRecDepth 100000 in
set_option maxHeartbeats 4000000 in
theorem ok_X8_isUsable {G : jv_G} {l : Launch} {σ : jv_S} {p1 : Int32} {r : Bool} (h : f_X8_isUsable σ p1 = some r) : jv_Cn G l 1 M_X8_isUsable [.ref 35, .int p1] σ (some (.int (jv_b r))) σ := by
  refine jv_of (L0 := [some (.ref 35), some (.int p1)]) (by decide +kernel) (Nat.le_of_ble_eq_true rfl) rfl (jv_okZ _) (fun E e1 e2 hE hret => ?_)
  unfold f_X8_isUsable at h
  refine jv_aload_n (x := 35) (pc' := 1) hE dX8_isUsable_0 rfl 0 rfl rfl ?_
  refine jv_get (v := .ref 39) (pc' := 4) hE dX8_isUsable_1 rfl lF_X8_23 rfl rfl rfl ?_
  refine jv_iload_n (x := p1) (pc' := 5) hE dX8_isUsable_4 rfl 1 rfl rfl ?_
  by_cases c1 : jv_ck p1 24 = true
  · rw [if_pos c1] at h
    refine jv_zald (pc' := 6) hE dX8_isUsable_5 rfl rfl (jv_ck_in c1) ?_
    show jv_V E 6 [some (.ref 35), some (.int p1)] [.int (σ.1 39 p1.toNatClampNeg)] σ
    obtain ⟨q3, hq3, h⟩ := jv_bd_some h
    have kq3 : jv_V E 42 [none, none] [.int (jv_b q3)] σ := by
      cases h
      exact hret _ _ dX8_isUsable_42
    refine jv_if_ne (x := (σ.1 39 p1.toNatClampNeg)) (tgt := 41) (pc' := 9) hE dX8_isUsable_6 (by decide) rfl (fun c2 => ?_) (fun c2 => ?_)
    · rw [if_neg c2] at hq3
      refine jv_iconst (v := (0 : Int32)) (pc' := 42) hE dX8_isUsable_41 rfl (by decide) ?_
      cases hq3
      exact jv_forget [false, false] kq3
    · rw [if_pos c2] at hq3
      refine jv_aload_n (x := 35) (pc' := 10) hE dX8_isUsable_9 rfl 0 rfl rfl ?_
      refine jv_get (v := .ref 40) (pc' := 13) hE dX8_isUsable_10 rfl lF_X8_27 rfl rfl rfl ?_
      refine jv_aload_n (x := 35) (pc' := 14) hE dX8_isUsable_13 rfl 0 rfl rfl ?_
      refine jv_get (v := .ref 36) (pc' := 17) hE dX8_isUsable_14 rfl lF_X8_13 rfl rfl rfl ?_
      refine jv_iload_n (x := p1) (pc' := 18) hE dX8_isUsable_17 rfl 1 rfl rfl ?_
      by_cases c4 : jv_ck p1 24 = true
      · rw [if_pos c4] at hq3
        refine jv_iald (pc' := 19) hE dX8_isUsable_18 rfl rfl (jv_ck_in c4) ?_
        show jv_V E 19 [some (.ref 35), some (.int p1)] [.int (σ.1 36 p1.toNatClampNeg), .ref 40] σ
        by_cases c5 : jv_ck (σ.1 36 p1.toNatClampNeg) 10 = true
        · rw [if_pos c5] at hq3
          refine jv_zald (pc' := 20) hE dX8_isUsable_19 rfl rfl (jv_ck_in c5) ?_
          show jv_V E 20 [some (.ref 35), some (.int p1)] [.int (σ.1 40 (σ.1 36 p1.toNatClampNeg).toNatClampNeg)] σ
          refine jv_if_ne (x := (σ.1 40 (σ.1 36 p1.toNatClampNeg).toNatClampNeg)) (tgt := 41) (pc' := 23) hE dX8_isUsable_20 (by decide) rfl (fun c6 => ?_) (fun c6 => ?_)
          · rw [if_neg c6] at hq3
            refine jv_iconst (v := (0 : Int32)) (pc' := 42) hE dX8_isUsable_41 rfl (by decide) ?_
            cases hq3
            exact jv_forget [false, false] kq3
          · rw [if_pos c6] at hq3
            refine jv_aload_n (x := 35) (pc' := 24) hE dX8_isUsable_23 rfl 0 rfl rfl ?_
            refine jv_get (v := .ref 40) (pc' := 27) hE dX8_isUsable_24 rfl lF_X8_27 rfl rfl rfl ?_
            refine jv_aload_n (x := 35) (pc' := 28) hE dX8_isUsable_27 rfl 0 rfl rfl ?_
            refine jv_get (v := .ref 37) (pc' := 31) hE dX8_isUsable_28 rfl lF_X8_17 rfl rfl rfl ?_
            refine jv_iload_n (x := p1) (pc' := 32) hE dX8_isUsable_31 rfl 1 rfl rfl ?_
            by_cases c7 : jv_ck p1 24 = true
            · rw [if_pos c7] at hq3
              refine jv_iald (pc' := 33) hE dX8_isUsable_32 rfl rfl (jv_ck_in c7) ?_
              show jv_V E 33 [some (.ref 35), some (.int p1)] [.int (σ.1 37 p1.toNatClampNeg), .ref 40] σ
              by_cases c8 : jv_ck (σ.1 37 p1.toNatClampNeg) 10 = true
              · rw [if_pos c8] at hq3
                refine jv_zald (pc' := 34) hE dX8_isUsable_33 rfl rfl (jv_ck_in c8) ?_
                show jv_V E 34 [some (.ref 35), some (.int p1)] [.int (σ.1 40 (σ.1 37 p1.toNatClampNeg).toNatClampNeg)] σ
                refine jv_if_ne (x := (σ.1 40 (σ.1 37 p1.toNatClampNeg).toNatClampNeg)) (tgt := 41) (pc' := 37) hE dX8_isUsable_34 (by decide) rfl (fun c9 => ?_) (fun c9 => ?_)
                · rw [if_neg c9] at hq3
                  refine jv_iconst (v := (0 : Int32)) (pc' := 42) hE dX8_isUsable_41 rfl (by decide) ?_
                  cases hq3
                  exact jv_forget [false, false] kq3
                · rw [if_pos c9] at hq3
                  refine jv_iconst (v := (1 : Int32)) (pc' := 38) hE dX8_isUsable_37 rfl (by decide) ?_
                  refine jv_goto (tgt := 42) hE dX8_isUsable_38 (by decide) ?_
                  cases hq3
                  exact jv_forget [false, false] kq3
              · rw [if_neg c8] at hq3; cases hq3
            · rw [if_neg c7] at hq3; cases hq3
        · rw [if_neg c5] at hq3; cases hq3
      · rw [if_neg c4] at hq3; cases hq3
  · rw [if_neg c1] at h; cases h
noncomputable def f_X8_usableEdges_lp9 : Nat → Int32 → Int32 → jv_S → Option (Int32 × Int32)
  | 0, _, _, _ => none
  | n + 1, v1, v2, σ => if (σ.1 35 2) ≤ v2 then (some (v1, v2)) else (jv_bd (f_X8_isUsable σ v2) (fun q2 => jv_lt (if q2 = true then (true) else (false)) (fun q4 => f_X8_usableEdges_lp9 n (v1 + (jv_b q4)) (v2 + (1 : Int32)) σ)))
noncomputable def f_X8_usableEdges (σ : jv_S) : Option (Int32 × jv_S) := jv_bd (f_X8_usableEdges_lp9 jv_fuel (0 : Int32) (0 : Int32) (jv_si σ 35 0 (0 : Int32))) (fun q5 => some (q5.1, (jv_si σ 35 0 (0 : Int32))))
set_option maxRecDepth 100000 in
set_option maxHeartbeats 4000000 in
theorem lp_X8_usableEdges_9 {σ : jv_S} {E : jv_E} (hE : jv_Cx E RX8 cX8_usableEdges 3 2) : ∀ (n : Nat) (v1 : Int32) (v2 : Int32)  (q : Int32 × Int32), f_X8_usableEdges_lp9 n v1 v2 σ = some q → (jv_V E 39 [none, some (.int q.1), none] [] σ) → jv_V E 9 [some (.ref 35), some (.int v1), some (.int v2)] [] σ := by
  intro n
  induction n with
  | zero =>
    intro v1 v2 q h
    rw [f_X8_usableEdges_lp9] at h
    cases h
  | succ n ih =>
    intro v1 v2 q h hk
    rw [f_X8_usableEdges_lp9] at h
    refine jv_iload_n (x := v2) (pc' := 10) hE dX8_usableEdges_9 rfl 2 rfl rfl ?_
    refine jv_aload_n (x := 35) (pc' := 11) hE dX8_usableEdges_10 rfl 0 rfl rfl ?_
    refine jv_get (v := .int (σ.1 35 2)) (pc' := 14) hE dX8_usableEdges_11 rfl lF_X8_105 rfl rfl rfl ?_
    refine jv_icmp_ge (x := v2) (y := (σ.1 35 2)) (tgt := 39) (pc' := 17) hE dX8_usableEdges_14 (by decide) rfl (fun c1 => ?_) (fun c1 => ?_)
    · rw [if_pos c1] at h
      cases h
      exact jv_forget [false, true, false] hk
    · rw [if_neg c1] at h
      refine jv_iload_n (x := v1) (pc' := 18) hE dX8_usableEdges_17 rfl 1 rfl rfl ?_
      refine jv_aload_n (x := 35) (pc' := 19) hE dX8_usableEdges_18 rfl 0 rfl rfl ?_
      refine jv_iload_n (x := v2) (pc' := 20) hE dX8_usableEdges_19 rfl 2 rfl rfl ?_
      obtain ⟨q2, hq2, h⟩ := jv_bd_some h
      refine jv_callV (pc' := 23) (o := some (.int (jv_b q2))) (σ' := σ) hE dX8_usableEdges_20 rfl lV_X8_127 (ok_X8_isUsable hq2) rfl rfl rfl (by decide) rfl (Nat.le_of_ble_eq_true rfl) ?_
      show jv_V E 23 [some (.ref 35), some (.int v1), some (.int v2)] [.int (jv_b q2), .int v1] σ
      obtain ⟨q4, hq4, h⟩ := jv_lt_eq h
      have kq4 : jv_V E 31 [some (.ref 35), none, some (.int v2)] [.int (jv_b q4), .int v1] σ := by
        refine jv_iadd (x := v1) (y := (jv_b q4)) (pc' := 32) hE dX8_usableEdges_31 rfl ?_
        refine jv_istore_n (x := (v1 + (jv_b q4))) (L' := [some (.ref 35), some (.int (v1 + (jv_b q4))), some (.int v2)]) (pc' := 33) hE dX8_usableEdges_32 rfl 1 rfl (by decide) rfl rfl ?_
        refine jv_iinc (x := v2) (v := (v2 + (1 : Int32))) (L' := [some (.ref 35), some (.int (v1 + (jv_b q4))), some (.int (v2 + (1 : Int32)))]) (pc' := 36) hE dX8_usableEdges_33 rfl rfl rfl (by decide) rfl rfl ?_
        refine jv_goto (tgt := 9) hE dX8_usableEdges_36 (by decide) ?_
        exact jv_forget [true, true, true] (ih (v1 + (jv_b q4)) (v2 + (1 : Int32)) _ h hk)
      refine jv_if_eq (x := (jv_b q2)) (tgt := 30) (pc' := 26) hE dX8_usableEdges_23 (by decide) rfl (fun c3 => ?_) (fun c3 => ?_)
      · have c3 := jv_b0 c3
        rw [if_neg c3] at hq4
        refine jv_iconst (v := (0 : Int32)) (pc' := 31) hE dX8_usableEdges_30 rfl (by decide) ?_
        cases hq4
        exact jv_forget [true, false, true] kq4
      · have c3 := jv_b1 c3
        rw [if_pos c3] at hq4
        refine jv_iconst (v := (1 : Int32)) (pc' := 27) hE dX8_usableEdges_26 rfl (by decide) ?_
        refine jv_goto (tgt := 31) hE dX8_usableEdges_27 (by decide) ?_
        cases hq4
        exact jv_forget [true, false, true] kq4
set_option maxRecDepth 100000 in
set_option maxHeartbeats 4000000 in
theorem ok_X8_usableEdges {G : jv_G} {l : Launch} {σ : jv_S} {r : Int32 × jv_S} (h : f_X8_usableEdges σ = some r) : jv_Cn G l 2 M_X8_usableEdges [.ref 35] σ (some (.int r.1)) r.2 := by
  refine jv_of (L0 := [some (.ref 35), none, none]) (by decide +kernel) (Nat.le_of_ble_eq_true rfl) rfl (jv_okI _) (fun E e1 e2 hE hret => ?_)
  unfold f_X8_usableEdges at h
  refine jv_aload_n (x := 35) (pc' := 1) hE dX8_usableEdges_0 rfl 0 rfl rfl ?_
  refine jv_iconst (v := (0 : Int32)) (pc' := 2) hE dX8_usableEdges_1 rfl (by decide) ?_
  refine jv_puti (x := (0 : Int32)) (pc' := 5) hE dX8_usableEdges_2 rfl lP_X8_90 rfl rfl rfl rfl ?_
  refine jv_iconst (v := (0 : Int32)) (pc' := 6) hE dX8_usableEdges_5 rfl (by decide) ?_
  refine jv_istore_n (x := (0 : Int32)) (L' := [some (.ref 35), some (.int (0 : Int32)), none]) (pc' := 7) hE dX8_usableEdges_6 rfl 1 rfl (by decide) rfl rfl ?_
  refine jv_iconst (v := (0 : Int32)) (pc' := 8) hE dX8_usableEdges_7 rfl (by decide) ?_
  refine jv_istore_n (x := (0 : Int32)) (L' := [some (.ref 35), some (.int (0 : Int32)), some (.int (0 : Int32))]) (pc' := 9) hE dX8_usableEdges_8 rfl 2 rfl (by decide) rfl rfl ?_
  obtain ⟨q5, hq5, h⟩ := jv_bd_some h
  refine jv_forget [true, true, true] (lp_X8_usableEdges_9 hE jv_fuel (0 : Int32) (0 : Int32) _ hq5 ?_)
  refine jv_iload_n (x := q5.1) (pc' := 40) hE dX8_usableEdges_39 rfl 1 rfl rfl ?_
  cases h
  exact hret _ _ dX8_usableEdges_40
noncomputable def f_X8_shortest_lp2 (a1 : Int32) (a2 : Int32) : Nat → Int32 → jv_S → Option (Int32 × jv_S)
  | 0, _, _ => none
  | n + 1, v3, σ => if (σ.1 35 1) ≤ v3 then (some (v3, σ)) else (jv_lt (if v3 = a1 then ((0 : Int32)) else ((1000000000 : Int32))) (fun q3 => if jv_ck v3 20 = true then (f_X8_shortest_lp2 a1 a2 n (v3 + (1 : Int32)) (jv_si σ 57 v3.toNatClampNeg q3)) else none))
noncomputable def f_X8_shortest_lp46 (a2 : Int32) (a3 : Int32) : Nat → Int32 → jv_S → Option (Int32 × jv_S)
  | 0, _, _ => none
  | n + 1, v4, σ => if (σ.1 35 2) ≤ v4 then (some (v4, σ)) else (if jv_ck v4 24 = true then (if jv_ck (σ.1 36 v4.toNatClampNeg) 20 = true then (if jv_ck v4 24 = true then (jv_bd (f_X8_isUsable σ v4) (fun q11 => jv_bd (if q11 = true then (if jv_ck v4 24 = true then (if jv_ck (σ.1 37 v4.toNatClampNeg) 20 = true then (if (σ.1 57 (σ.1 37 v4.toNatClampNeg).toNatClampNeg) ≤ ((σ.1 57 (σ.1 36 v4.toNatClampNeg).toNatClampNeg) + (σ.1 38 v4.toNatClampNeg)) then (some σ) else (if jv_ck v4 24 = true then (if jv_ck (σ.1 37 v4.toNatClampNeg) 20 = true then (some (jv_si σ 57 (σ.1 37 v4.toNatClampNeg).toNatClampNeg ((σ.1 57 (σ.1 36 v4.toNatClampNeg).toNatClampNeg) + (σ.1 38 v4.toNatClampNeg)))) else none) else none)) else none) else none) else (some σ)) (fun q13 => f_X8_shortest_lp46 a2 a3 n (v4 + (1 : Int32)) q13))) else none) else none) else none)
noncomputable def f_X8_shortest_lp35 (a2 : Int32) : Nat → Int32 → jv_S → Option (Int32 × jv_S)
  | 0, _, _ => none
  | n + 1, v3, σ => if (σ.1 35 1) ≤ v3 then (some (v3, σ)) else (jv_bd (f_X8_shortest_lp46 a2 v3 jv_fuel (0 : Int32) σ) (fun q7 => f_X8_shortest_lp35 a2 n (v3 + (1 : Int32)) q7.2))
noncomputable def f_X8_shortest (σ : jv_S) (p1 : Int32) (p2 : Int32) : Option (Int32 × jv_S) := jv_bd (f_X8_shortest_lp2 p1 p2 jv_fuel (0 : Int32) σ) (fun q5 => jv_bd (f_X8_shortest_lp35 p2 jv_fuel (1 : Int32) q5.2) (fun q8 => if jv_ck p2 20 = true then (some ((q8.2.1 57 p2.toNatClampNeg), q8.2)) else none))
set_option maxRecDepth 100000 in
set_option maxHeartbeats 4000000 in
theorem lp_X8_shortest_2 {a1 : Int32} {a2 : Int32} {E : jv_E} (hE : jv_Cx E RX8 cX8_shortest 6 2) : ∀ (n : Nat) (v3 : Int32) (σ : jv_S) (q : Int32 × jv_S), f_X8_shortest_lp2 a1 a2 n v3 σ = some q → (jv_V E 33 [some (.ref 35), none, some (.int a2), none, none, none] [] q.2) → jv_V E 2 [some (.ref 35), some (.int a1), some (.int a2), some (.int v3), none, none] [] σ := by
  intro n
  induction n with
  | zero =>
    intro v3 σ q h
    rw [f_X8_shortest_lp2] at h
    cases h
  | succ n ih =>
    intro v3 σ q h hk
    rw [f_X8_shortest_lp2] at h
    refine jv_iload_n (x := v3) (pc' := 3) hE dX8_shortest_2 rfl 3 rfl rfl ?_
    refine jv_aload_n (x := 35) (pc' := 4) hE dX8_shortest_3 rfl 0 rfl rfl ?_
    refine jv_get (v := .int (σ.1 35 1)) (pc' := 7) hE dX8_shortest_4 rfl lF_X8_7 rfl rfl rfl ?_
    refine jv_icmp_ge (x := v3) (y := (σ.1 35 1)) (tgt := 33) (pc' := 10) hE dX8_shortest_7 (by decide) rfl (fun c1 => ?_) (fun c1 => ?_)
    · rw [if_pos c1] at h
      cases h
      exact jv_forget [true, false, true, false, true, true] hk
    · rw [if_neg c1] at h
      refine jv_aload_n (x := 35) (pc' := 11) hE dX8_shortest_10 rfl 0 rfl rfl ?_
      refine jv_get (v := .ref 57) (pc' := 14) hE dX8_shortest_11 rfl lF_X8_78 rfl rfl rfl ?_
      refine jv_iload_n (x := v3) (pc' := 15) hE dX8_shortest_14 rfl 3 rfl rfl ?_
      refine jv_iload_n (x := v3) (pc' := 16) hE dX8_shortest_15 rfl 3 rfl rfl ?_
      refine jv_iload_n (x := a1) (pc' := 17) hE dX8_shortest_16 rfl 1 rfl rfl ?_
      obtain ⟨q3, hq3, h⟩ := jv_lt_eq h
      have kq3 : jv_V E 26 [some (.ref 35), some (.int a1), some (.int a2), some (.int v3), none, none] [.int q3, .int v3, .ref 57] σ := by
        by_cases c4 : jv_ck v3 20 = true
        · rw [if_pos c4] at h
          refine jv_iast (pc' := 27) hE dX8_shortest_26 rfl rfl (jv_ck_in c4) ?_
          refine jv_iinc (x := v3) (v := (v3 + (1 : Int32))) (L' := [some (.ref 35), some (.int a1), some (.int a2), some (.int (v3 + (1 : Int32))), none, none]) (pc' := 30) hE dX8_shortest_27 rfl rfl rfl (by decide) rfl rfl ?_
          refine jv_goto (tgt := 2) hE dX8_shortest_30 (by decide) ?_
          exact jv_forget [true, true, true, true, true, true] (ih (v3 + (1 : Int32)) (jv_si σ 57 v3.toNatClampNeg q3) _ h hk)
        · rw [if_neg c4] at h; cases h
      refine jv_icmp_ne (x := v3) (y := a1) (tgt := 24) (pc' := 20) hE dX8_shortest_17 (by decide) rfl (fun c2 => ?_) (fun c2 => ?_)
      · rw [if_neg c2] at hq3
        refine jv_ldc (v := (1000000000 : Int32)) (pc' := 26) hE dX8_shortest_24 rfl lC_X8_130 ?_
        cases hq3
        exact jv_forget [true, true, true, true, true, true] kq3
      · rw [if_pos c2] at hq3
        refine jv_iconst (v := (0 : Int32)) (pc' := 21) hE dX8_shortest_20 rfl (by decide) ?_
        refine jv_goto (tgt := 26) hE dX8_shortest_21 (by decide) ?_
        cases hq3
        exact jv_forget [true, true, true, true, true, true] kq3
set_option maxRecDepth 100000 in
set_option maxHeartbeats 4000000 in
theorem lp_X8_shortest_46 {a2 : Int32} {a3 : Int32} {E : jv_E} (hE : jv_Cx E RX8 cX8_shortest 6 2) : ∀ (n : Nat) (v4 : Int32) (σ : jv_S) (q : Int32 × jv_S), f_X8_shortest_lp46 a2 a3 n v4 σ = some q → (jv_V E 123 [some (.ref 35), none, some (.int a2), some (.int a3), none, none] [] q.2) → jv_V E 46 [some (.ref 35), none, some (.int a2), some (.int a3), some (.int v4), none] [] σ := by
  intro n
  induction n with
  | zero =>
    intro v4 σ q h
    rw [f_X8_shortest_lp46] at h
    cases h
  | succ n ih =>
    intro v4 σ q h hk
    rw [f_X8_shortest_lp46] at h
    refine jv_iload (x := v4) (pc' := 48) hE dX8_shortest_46 rfl rfl ?_
    refine jv_aload_n (x := 35) (pc' := 49) hE dX8_shortest_48 rfl 0 rfl rfl ?_
    refine jv_get (v := .int (σ.1 35 2)) (pc' := 52) hE dX8_shortest_49 rfl lF_X8_105 rfl rfl rfl ?_
    refine jv_icmp_ge (x := v4) (y := (σ.1 35 2)) (tgt := 123) (pc' := 55) hE dX8_shortest_52 (by decide) rfl (fun c7 => ?_) (fun c7 => ?_)
    · rw [if_pos c7] at h
      cases h
      exact jv_forget [true, true, true, true, false, true] hk
    · rw [if_neg c7] at h
      refine jv_aload_n (x := 35) (pc' := 56) hE dX8_shortest_55 rfl 0 rfl rfl ?_
      refine jv_get (v := .ref 57) (pc' := 59) hE dX8_shortest_56 rfl lF_X8_78 rfl rfl rfl ?_
      refine jv_aload_n (x := 35) (pc' := 60) hE dX8_shortest_59 rfl 0 rfl rfl ?_
      refine jv_get (v := .ref 36) (pc' := 63) hE dX8_shortest_60 rfl lF_X8_13 rfl rfl rfl ?_
      refine jv_iload (x := v4) (pc' := 65) hE dX8_shortest_63 rfl rfl ?_
      by_cases c8 : jv_ck v4 24 = true
      · rw [if_pos c8] at h
        refine jv_iald (pc' := 66) hE dX8_shortest_65 rfl rfl (jv_ck_in c8) ?_
        show jv_V E 66 [some (.ref 35), none, some (.int a2), some (.int a3), some (.int v4), none] [.int (σ.1 36 v4.toNatClampNeg), .ref 57] σ
        by_cases c9 : jv_ck (σ.1 36 v4.toNatClampNeg) 20 = true
        · rw [if_pos c9] at h
          refine jv_iald (pc' := 67) hE dX8_shortest_66 rfl rfl (jv_ck_in c9) ?_
          show jv_V E 67 [some (.ref 35), none, some (.int a2), some (.int a3), some (.int v4), none] [.int (σ.1 57 (σ.1 36 v4.toNatClampNeg).toNatClampNeg)] σ
          refine jv_aload_n (x := 35) (pc' := 68) hE dX8_shortest_67 rfl 0 rfl rfl ?_
          refine jv_get (v := .ref 38) (pc' := 71) hE dX8_shortest_68 rfl lF_X8_20 rfl rfl rfl ?_
          refine jv_iload (x := v4) (pc' := 73) hE dX8_shortest_71 rfl rfl ?_
          by_cases c10 : jv_ck v4 24 = true
          · rw [if_pos c10] at h
            refine jv_iald (pc' := 74) hE dX8_shortest_73 rfl rfl (jv_ck_in c10) ?_
            show jv_V E 74 [some (.ref 35), none, some (.int a2), some (.int a3), some (.int v4), none] [.int (σ.1 38 v4.toNatClampNeg), .int (σ.1 57 (σ.1 36 v4.toNatClampNeg).toNatClampNeg)] σ
            refine jv_iadd (x := (σ.1 57 (σ.1 36 v4.toNatClampNeg).toNatClampNeg)) (y := (σ.1 38 v4.toNatClampNeg)) (pc' := 75) hE dX8_shortest_74 rfl ?_
            refine jv_istore (x := ((σ.1 57 (σ.1 36 v4.toNatClampNeg).toNatClampNeg) + (σ.1 38 v4.toNatClampNeg))) (L' := [some (.ref 35), none, some (.int a2), some (.int a3), some (.int v4), some (.int ((σ.1 57 (σ.1 36 v4.toNatClampNeg).toNatClampNeg) + (σ.1 38 v4.toNatClampNeg)))]) (pc' := 77) hE dX8_shortest_75 rfl (by decide) rfl rfl ?_
            refine jv_aload_n (x := 35) (pc' := 78) hE dX8_shortest_77 rfl 0 rfl rfl ?_
            refine jv_iload (x := v4) (pc' := 80) hE dX8_shortest_78 rfl rfl ?_
            obtain ⟨q11, hq11, h⟩ := jv_bd_some h
            refine jv_callV (pc' := 83) (o := some (.int (jv_b q11))) (σ' := σ) hE dX8_shortest_80 rfl lV_X8_127 (ok_X8_isUsable hq11) rfl rfl rfl (by decide) rfl (Nat.le_of_ble_eq_true rfl) ?_
            show jv_V E 83 [some (.ref 35), none, some (.int a2), some (.int a3), some (.int v4), some (.int ((σ.1 57 (σ.1 36 v4.toNatClampNeg).toNatClampNeg) + (σ.1 38 v4.toNatClampNeg)))] [.int (jv_b q11)] σ
            obtain ⟨q13, hq13, h⟩ := jv_bd_some h
            have kq13 : jv_V E 117 [some (.ref 35), none, some (.int a2), some (.int a3), some (.int v4), none] [] q13 := by
              refine jv_iinc (x := v4) (v := (v4 + (1 : Int32))) (L' := [some (.ref 35), none, some (.int a2), some (.int a3), some (.int (v4 + (1 : Int32))), none]) (pc' := 120) hE dX8_shortest_117 rfl rfl rfl (by decide) rfl rfl ?_
              refine jv_goto (tgt := 46) hE dX8_shortest_120 (by decide) ?_
              exact jv_forget [true, true, true, true, true, true] (ih (v4 + (1 : Int32)) q13 _ h hk)
            refine jv_if_eq (x := (jv_b q11)) (tgt := 117) (pc' := 86) hE dX8_shortest_83 (by decide) rfl (fun c12 => ?_) (fun c12 => ?_)
            · have c12 := jv_b0 c12
              rw [if_neg c12] at hq13
              cases hq13
              exact jv_forget [true, true, true, true, true, false] kq13
            · have c12 := jv_b1 c12
              rw [if_pos c12] at hq13
              refine jv_iload (x := ((σ.1 57 (σ.1 36 v4.toNatClampNeg).toNatClampNeg) + (σ.1 38 v4.toNatClampNeg))) (pc' := 88) hE dX8_shortest_86 rfl rfl ?_
              refine jv_aload_n (x := 35) (pc' := 89) hE dX8_shortest_88 rfl 0 rfl rfl ?_
              refine jv_get (v := .ref 57) (pc' := 92) hE dX8_shortest_89 rfl lF_X8_78 rfl rfl rfl ?_
              refine jv_aload_n (x := 35) (pc' := 93) hE dX8_shortest_92 rfl 0 rfl rfl ?_
              refine jv_get (v := .ref 37) (pc' := 96) hE dX8_shortest_93 rfl lF_X8_17 rfl rfl rfl ?_
              refine jv_iload (x := v4) (pc' := 98) hE dX8_shortest_96 rfl rfl ?_
              by_cases c14 : jv_ck v4 24 = true
              · rw [if_pos c14] at hq13
                refine jv_iald (pc' := 99) hE dX8_shortest_98 rfl rfl (jv_ck_in c14) ?_
                show jv_V E 99 [some (.ref 35), none, some (.int a2), some (.int a3), some (.int v4), some (.int ((σ.1 57 (σ.1 36 v4.toNatClampNeg).toNatClampNeg) + (σ.1 38 v4.toNatClampNeg)))] [.int (σ.1 37 v4.toNatClampNeg), .ref 57, .int ((σ.1 57 (σ.1 36 v4.toNatClampNeg).toNatClampNeg) + (σ.1 38 v4.toNatClampNeg))] σ
                by_cases c15 : jv_ck (σ.1 37 v4.toNatClampNeg) 20 = true
                · rw [if_pos c15] at hq13
                  refine jv_iald (pc' := 100) hE dX8_shortest_99 rfl rfl (jv_ck_in c15) ?_
                  show jv_V E 100 [some (.ref 35), none, some (.int a2), some (.int a3), some (.int v4), some (.int ((σ.1 57 (σ.1 36 v4.toNatClampNeg).toNatClampNeg) + (σ.1 38 v4.toNatClampNeg)))] [.int (σ.1 57 (σ.1 37 v4.toNatClampNeg).toNatClampNeg), .int ((σ.1 57 (σ.1 36 v4.toNatClampNeg).toNatClampNeg) + (σ.1 38 v4.toNatClampNeg))] σ
                  refine jv_icmp_ge (x := ((σ.1 57 (σ.1 36 v4.toNatClampNeg).toNatClampNeg) + (σ.1 38 v4.toNatClampNeg))) (y := (σ.1 57 (σ.1 37 v4.toNatClampNeg).toNatClampNeg)) (tgt := 117) (pc' := 103) hE dX8_shortest_100 (by decide) rfl (fun c16 => ?_) (fun c16 => ?_)
                  · rw [if_pos c16] at hq13
                    cases hq13
                    exact jv_forget [true, true, true, true, true, false] kq13
                  · rw [if_neg c16] at hq13
                    refine jv_aload_n (x := 35) (pc' := 104) hE dX8_shortest_103 rfl 0 rfl rfl ?_
                    refine jv_get (v := .ref 57) (pc' := 107) hE dX8_shortest_104 rfl lF_X8_78 rfl rfl rfl ?_
                    refine jv_aload_n (x := 35) (pc' := 108) hE dX8_shortest_107 rfl 0 rfl rfl ?_
                    refine jv_get (v := .ref 37) (pc' := 111) hE dX8_shortest_108 rfl lF_X8_17 rfl rfl rfl ?_
                    refine jv_iload (x := v4) (pc' := 113) hE dX8_shortest_111 rfl rfl ?_
                    by_cases c17 : jv_ck v4 24 = true
                    · rw [if_pos c17] at hq13
                      refine jv_iald (pc' := 114) hE dX8_shortest_113 rfl rfl (jv_ck_in c17) ?_
                      show jv_V E 114 [some (.ref 35), none, some (.int a2), some (.int a3), some (.int v4), some (.int ((σ.1 57 (σ.1 36 v4.toNatClampNeg).toNatClampNeg) + (σ.1 38 v4.toNatClampNeg)))] [.int (σ.1 37 v4.toNatClampNeg), .ref 57] σ
                      refine jv_iload (x := ((σ.1 57 (σ.1 36 v4.toNatClampNeg).toNatClampNeg) + (σ.1 38 v4.toNatClampNeg))) (pc' := 116) hE dX8_shortest_114 rfl rfl ?_
                      by_cases c18 : jv_ck (σ.1 37 v4.toNatClampNeg) 20 = true
                      · rw [if_pos c18] at hq13
                        refine jv_iast (pc' := 117) hE dX8_shortest_116 rfl rfl (jv_ck_in c18) ?_
                        cases hq13
                        exact jv_forget [true, true, true, true, true, false] kq13
                      · rw [if_neg c18] at hq13; cases hq13
                    · rw [if_neg c17] at hq13; cases hq13
                · rw [if_neg c15] at hq13; cases hq13
              · rw [if_neg c14] at hq13; cases hq13
          · rw [if_neg c10] at h; cases h
        · rw [if_neg c9] at h; cases h
      · rw [if_neg c8] at h; cases h
set_option maxRecDepth 100000 in
set_option maxHeartbeats 4000000 in
theorem lp_X8_shortest_35 {a2 : Int32} {E : jv_E} (hE : jv_Cx E RX8 cX8_shortest 6 2) : ∀ (n : Nat) (v3 : Int32) (σ : jv_S) (q : Int32 × jv_S), f_X8_shortest_lp35 a2 n v3 σ = some q → (jv_V E 129 [some (.ref 35), none, some (.int a2), none, none, none] [] q.2) → jv_V E 35 [some (.ref 35), none, some (.int a2), some (.int v3), none, none] [] σ := by
  intro n
  induction n with
  | zero =>
    intro v3 σ q h
    rw [f_X8_shortest_lp35] at h
    cases h
  | succ n ih =>
    intro v3 σ q h hk
    rw [f_X8_shortest_lp35] at h
    refine jv_iload_n (x := v3) (pc' := 36) hE dX8_shortest_35 rfl 3 rfl rfl ?_
    refine jv_aload_n (x := 35) (pc' := 37) hE dX8_shortest_36 rfl 0 rfl rfl ?_
    refine jv_get (v := .int (σ.1 35 1)) (pc' := 40) hE dX8_shortest_37 rfl lF_X8_7 rfl rfl rfl ?_
    refine jv_icmp_ge (x := v3) (y := (σ.1 35 1)) (tgt := 129) (pc' := 43) hE dX8_shortest_40 (by decide) rfl (fun c6 => ?_) (fun c6 => ?_)
    · rw [if_pos c6] at h
      cases h
      exact jv_forget [true, true, true, false, true, true] hk
    · rw [if_neg c6] at h
      refine jv_iconst (v := (0 : Int32)) (pc' := 44) hE dX8_shortest_43 rfl (by decide) ?_
      refine jv_istore (x := (0 : Int32)) (L' := [some (.ref 35), none, some (.int a2), some (.int v3), some (.int (0 : Int32)), none]) (pc' := 46) hE dX8_shortest_44 rfl (by decide) rfl rfl ?_
      obtain ⟨q7, hq7, h⟩ := jv_bd_some h
      refine jv_forget [true, true, true, true, true, true] (lp_X8_shortest_46 hE jv_fuel (0 : Int32) σ _ hq7 ?_)
      refine jv_iinc (x := v3) (v := (v3 + (1 : Int32))) (L' := [some (.ref 35), none, some (.int a2), some (.int (v3 + (1 : Int32))), none, none]) (pc' := 126) hE dX8_shortest_123 rfl rfl rfl (by decide) rfl rfl ?_
      refine jv_goto (tgt := 35) hE dX8_shortest_126 (by decide) ?_
      exact jv_forget [true, true, true, true, true, true] (ih (v3 + (1 : Int32)) q7.2 _ h hk)
set_option maxRecDepth 100000 in
set_option maxHeartbeats 4000000 in
theorem ok_X8_shortest {G : jv_G} {l : Launch} {σ : jv_S} {p1 : Int32} {p2 : Int32} {r : Int32 × jv_S} (h : f_X8_shortest σ p1 p2 = some r) : jv_Cn G l 2 M_X8_shortest [.ref 35, .int p1, .int p2] σ (some (.int r.1)) r.2 := by
  refine jv_of (L0 := [some (.ref 35), some (.int p1), some (.int p2), none, none, none]) (by decide +kernel) (Nat.le_of_ble_eq_true rfl) rfl (jv_okI _) (fun E e1 e2 hE hret => ?_)
  unfold f_X8_shortest at h
  refine jv_iconst (v := (0 : Int32)) (pc' := 1) hE dX8_shortest_0 rfl (by decide) ?_
  refine jv_istore_n (x := (0 : Int32)) (L' := [some (.ref 35), some (.int p1), some (.int p2), some (.int (0 : Int32)), none, none]) (pc' := 2) hE dX8_shortest_1 rfl 3 rfl (by decide) rfl rfl ?_
  obtain ⟨q5, hq5, h⟩ := jv_bd_some h
  refine jv_forget [true, true, true, true, true, true] (lp_X8_shortest_2 hE jv_fuel (0 : Int32) σ _ hq5 ?_)
  refine jv_iconst (v := (1 : Int32)) (pc' := 34) hE dX8_shortest_33 rfl (by decide) ?_
  refine jv_istore_n (x := (1 : Int32)) (L' := [some (.ref 35), none, some (.int p2), some (.int (1 : Int32)), none, none]) (pc' := 35) hE dX8_shortest_34 rfl 3 rfl (by decide) rfl rfl ?_
  obtain ⟨q8, hq8, h⟩ := jv_bd_some h
  refine jv_forget [true, true, true, true, true, true] (lp_X8_shortest_35 hE jv_fuel (1 : Int32) q5.2 _ hq8 ?_)
  refine jv_aload_n (x := 35) (pc' := 130) hE dX8_shortest_129 rfl 0 rfl rfl ?_
  refine jv_get (v := .ref 57) (pc' := 133) hE dX8_shortest_130 rfl lF_X8_78 rfl rfl rfl ?_
  refine jv_iload_n (x := p2) (pc' := 134) hE dX8_shortest_133 rfl 2 rfl rfl ?_
  by_cases c9 : jv_ck p2 20 = true
  · rw [if_pos c9] at h
    refine jv_iald (pc' := 135) hE dX8_shortest_134 rfl rfl (jv_ck_in c9) ?_
    show jv_V E 135 [some (.ref 35), none, some (.int p2), none, none, none] [.int (q8.2.1 57 p2.toNatClampNeg)] q8.2
    cases h
    exact hret _ _ dX8_shortest_135
  · rw [if_neg c9] at h; cases h
noncomputable def f_X8_distance (σ : jv_S) (p1 : Int32) (p2 : Int32) : Option (Int32 × jv_S) := jv_bd (if (f_X8_areNodes σ p1 p2) = true then (jv_bd (f_X8_shortest σ p1 p2) (fun q3 => some (q3.1, q3.2))) else (some ((1000000000 : Int32), σ))) (fun q2 => jv_lt (if (f_X8_areNodes q2.2 p1 p2) = true then (if q2.1 = (1000000000 : Int32) then ((2 : Int32)) else ((0 : Int32))) else ((1 : Int32))) (fun q5 => jv_lt (f_X8_holds q2.2 q5) (fun q7 => jv_lt (if q7.1 = true then (q2.1) else ((0 : Int32))) (fun q9 => some (q9, q7.2)))))
set_option maxRecDepth 100000 in
set_option maxHeartbeats 4000000 in
theorem ok_X8_distance {G : jv_G} {l : Launch} {σ : jv_S} {p1 : Int32} {p2 : Int32} {r : Int32 × jv_S} (h : f_X8_distance σ p1 p2 = some r) : jv_Cn G l 4 M_X8_distance [.ref 35, .int p1, .int p2] σ (some (.int r.1)) r.2 := by
  refine jv_of (L0 := [some (.ref 35), some (.int p1), some (.int p2), none]) (by decide +kernel) (Nat.le_of_ble_eq_true rfl) rfl (jv_okI _) (fun E e1 e2 hE hret => ?_)
  unfold f_X8_distance at h
  refine jv_aload_n (x := 35) (pc' := 1) hE dX8_distance_0 rfl 0 rfl rfl ?_
  refine jv_iload_n (x := p1) (pc' := 2) hE dX8_distance_1 rfl 1 rfl rfl ?_
  refine jv_iload_n (x := p2) (pc' := 3) hE dX8_distance_2 rfl 2 rfl rfl ?_
  refine jv_callV (pc' := 6) (o := some (.int (jv_b (f_X8_areNodes σ p1 p2)))) (σ' := σ) hE dX8_distance_3 rfl lV_X8_101 (ok_X8_areNodes rfl) rfl rfl rfl (by decide) rfl (Nat.le_of_ble_eq_true rfl) ?_
  show jv_V E 6 [some (.ref 35), some (.int p1), some (.int p2), none] [.int (jv_b (f_X8_areNodes σ p1 p2))] σ
  obtain ⟨q2, hq2, h⟩ := jv_bd_some h
  have kq2 : jv_V E 20 [some (.ref 35), some (.int p1), some (.int p2), none] [.int q2.1] q2.2 := by
    refine jv_istore_n (x := q2.1) (L' := [some (.ref 35), some (.int p1), some (.int p2), some (.int q2.1)]) (pc' := 21) hE dX8_distance_20 rfl 3 rfl (by decide) rfl rfl ?_
    refine jv_aload_n (x := 35) (pc' := 22) hE dX8_distance_21 rfl 0 rfl rfl ?_
    refine jv_aload_n (x := 35) (pc' := 23) hE dX8_distance_22 rfl 0 rfl rfl ?_
    refine jv_iload_n (x := p1) (pc' := 24) hE dX8_distance_23 rfl 1 rfl rfl ?_
    refine jv_iload_n (x := p2) (pc' := 25) hE dX8_distance_24 rfl 2 rfl rfl ?_
    refine jv_callV (pc' := 28) (o := some (.int (jv_b (f_X8_areNodes q2.2 p1 p2)))) (σ' := q2.2) hE dX8_distance_25 rfl lV_X8_101 (ok_X8_areNodes rfl) rfl rfl rfl (by decide) rfl (Nat.le_of_ble_eq_true rfl) ?_
    show jv_V E 28 [some (.ref 35), some (.int p1), some (.int p2), some (.int q2.1)] [.int (jv_b (f_X8_areNodes q2.2 p1 p2)), .ref 35] q2.2
    obtain ⟨q5, hq5, h⟩ := jv_lt_eq h
    have kq5 : jv_V E 46 [none, none, none, some (.int q2.1)] [.int q5, .ref 35] q2.2 := by
      obtain ⟨q7, hq7, h⟩ := jv_lt_eq h
      refine jv_callV (pc' := 49) (o := some (.int (jv_b q7.1))) (σ' := q7.2) hE dX8_distance_46 rfl lV_X8_115 (ok_X8_holds hq7) rfl rfl rfl (by decide) rfl (Nat.le_of_ble_eq_true rfl) ?_
      show jv_V E 49 [none, none, none, some (.int q2.1)] [.int (jv_b q7.1)] q7.2
      obtain ⟨q9, hq9, h⟩ := jv_lt_eq h
      have kq9 : jv_V E 57 [none, none, none, none] [.int q9] q7.2 := by
        cases h
        exact hret _ _ dX8_distance_57
      refine jv_if_eq (x := (jv_b q7.1)) (tgt := 56) (pc' := 52) hE dX8_distance_49 (by decide) rfl (fun c8 => ?_) (fun c8 => ?_)
      · have c8 := jv_b0 c8
        rw [if_neg c8] at hq9
        refine jv_iconst (v := (0 : Int32)) (pc' := 57) hE dX8_distance_56 rfl (by decide) ?_
        cases hq9
        exact jv_forget [true, true, true, false] kq9
      · have c8 := jv_b1 c8
        rw [if_pos c8] at hq9
        refine jv_iload_n (x := q2.1) (pc' := 53) hE dX8_distance_52 rfl 3 rfl rfl ?_
        refine jv_goto (tgt := 57) hE dX8_distance_53 (by decide) ?_
        cases hq9
        exact jv_forget [true, true, true, false] kq9
    refine jv_if_ne (x := (jv_b (f_X8_areNodes q2.2 p1 p2))) (tgt := 35) (pc' := 31) hE dX8_distance_28 (by decide) rfl (fun c4 => ?_) (fun c4 => ?_)
    · have c4 := jv_b1 c4
      rw [if_pos c4] at hq5
      refine jv_iload_n (x := q2.1) (pc' := 36) hE dX8_distance_35 rfl 3 rfl rfl ?_
      refine jv_ldc (v := (1000000000 : Int32)) (pc' := 38) hE dX8_distance_36 rfl lC_X8_130 ?_
      refine jv_icmp_ne (x := q2.1) (y := (1000000000 : Int32)) (tgt := 45) (pc' := 41) hE dX8_distance_38 (by decide) rfl (fun c6 => ?_) (fun c6 => ?_)
      · rw [if_neg c6] at hq5
        refine jv_iconst (v := (0 : Int32)) (pc' := 46) hE dX8_distance_45 rfl (by decide) ?_
        cases hq5
        exact jv_forget [false, false, false, true] kq5
      · rw [if_pos c6] at hq5
        refine jv_iconst (v := (2 : Int32)) (pc' := 42) hE dX8_distance_41 rfl (by decide) ?_
        refine jv_goto (tgt := 46) hE dX8_distance_42 (by decide) ?_
        cases hq5
        exact jv_forget [false, false, false, true] kq5
    · have c4 := jv_b0 c4
      rw [if_neg c4] at hq5
      refine jv_iconst (v := (1 : Int32)) (pc' := 32) hE dX8_distance_31 rfl (by decide) ?_
      refine jv_goto (tgt := 46) hE dX8_distance_32 (by decide) ?_
      cases hq5
      exact jv_forget [false, false, false, true] kq5
  refine jv_if_eq (x := (jv_b (f_X8_areNodes σ p1 p2))) (tgt := 18) (pc' := 9) hE dX8_distance_6 (by decide) rfl (fun c1 => ?_) (fun c1 => ?_)
  · have c1 := jv_b0 c1
    rw [if_neg c1] at hq2
    refine jv_ldc (v := (1000000000 : Int32)) (pc' := 20) hE dX8_distance_18 rfl lC_X8_130 ?_
    cases hq2
    exact jv_forget [true, true, true, true] kq2
  · have c1 := jv_b1 c1
    rw [if_pos c1] at hq2
    refine jv_aload_n (x := 35) (pc' := 10) hE dX8_distance_9 rfl 0 rfl rfl ?_
    refine jv_iload_n (x := p1) (pc' := 11) hE dX8_distance_10 rfl 1 rfl rfl ?_
    refine jv_iload_n (x := p2) (pc' := 12) hE dX8_distance_11 rfl 2 rfl rfl ?_
    obtain ⟨q3, hq3, hq2⟩ := jv_bd_some hq2
    refine jv_callV (pc' := 15) (o := some (.int q3.1)) (σ' := q3.2) hE dX8_distance_12 rfl lV_X8_131 (ok_X8_shortest hq3) rfl rfl rfl (by decide) rfl (Nat.le_of_ble_eq_true rfl) ?_
    show jv_V E 15 [some (.ref 35), some (.int p1), some (.int p2), none] [.int q3.1] q3.2
    refine jv_goto (tgt := 20) hE dX8_distance_15 (by decide) ?_
    cases hq2
    exact jv_forget [true, true, true, true] kq2
noncomputable def f_X8_startPaths (σ : jv_S) (p1 : Int32) (p2 : Int32) : jv_S := jv_lt (if (f_X8_areTwo σ p1 p2) = true then (false) else (true)) (fun q2 => jv_lt (f_X8_holds σ (jv_b q2)) (fun q3 => jv_lt (if q3.1 = true then ((jv_si (jv_si (jv_si (jv_si (jv_si q3.2 35 9 (1 : Int32)) 35 10 p1) 35 11 p2) 35 12 (0 : Int32)) 35 13 (0 : Int32))) else (q3.2)) (fun q5 => q5)))
set_option maxRecDepth 100000 in
set_option maxHeartbeats 4000000 in
theorem ok_X8_startPaths {G : jv_G} {l : Launch} {σ : jv_S} {p1 : Int32} {p2 : Int32} {r : jv_S} (h : f_X8_startPaths σ p1 p2 = r) : jv_Cn G l 5 M_X8_startPaths [.ref 35, .int p1, .int p2] σ (none) r := by
  refine jv_of (L0 := [some (.ref 35), some (.int p1), some (.int p2)]) (by decide +kernel) (Nat.le_of_ble_eq_true rfl) rfl jv_okV (fun E e1 e2 hE hret => ?_)
  unfold f_X8_startPaths at h
  refine jv_aload_n (x := 35) (pc' := 1) hE dX8_startPaths_0 rfl 0 rfl rfl ?_
  refine jv_aload_n (x := 35) (pc' := 2) hE dX8_startPaths_1 rfl 0 rfl rfl ?_
  refine jv_iload_n (x := p1) (pc' := 3) hE dX8_startPaths_2 rfl 1 rfl rfl ?_
  refine jv_iload_n (x := p2) (pc' := 4) hE dX8_startPaths_3 rfl 2 rfl rfl ?_
  refine jv_callV (pc' := 7) (o := some (.int (jv_b (f_X8_areTwo σ p1 p2)))) (σ' := σ) hE dX8_startPaths_4 rfl lV_X8_121 (ok_X8_areTwo rfl) rfl rfl rfl (by decide) rfl (Nat.le_of_ble_eq_true rfl) ?_
  show jv_V E 7 [some (.ref 35), some (.int p1), some (.int p2)] [.int (jv_b (f_X8_areTwo σ p1 p2)), .ref 35] σ
  obtain ⟨q2, hq2, h⟩ := jv_lt_eq h
  have kq2 : jv_V E 15 [some (.ref 35), some (.int p1), some (.int p2)] [.int (jv_b q2), .ref 35] σ := by
    obtain ⟨q3, hq3, h⟩ := jv_lt_eq h
    refine jv_callV (pc' := 18) (o := some (.int (jv_b q3.1))) (σ' := q3.2) hE dX8_startPaths_15 rfl lV_X8_115 (ok_X8_holds hq3) rfl rfl rfl (by decide) rfl (Nat.le_of_ble_eq_true rfl) ?_
    show jv_V E 18 [some (.ref 35), some (.int p1), some (.int p2)] [.int (jv_b q3.1)] q3.2
    obtain ⟨q5, hq5, h⟩ := jv_lt_eq h
    have kq5 : jv_V E 46 [none, none, none] [] q5 := by
      cases h
      exact hret _ _ dX8_startPaths_46
    refine jv_if_eq (x := (jv_b q3.1)) (tgt := 46) (pc' := 21) hE dX8_startPaths_18 (by decide) rfl (fun c4 => ?_) (fun c4 => ?_)
    · have c4 := jv_b0 c4
      rw [if_neg c4] at hq5
      cases hq5
      exact jv_forget [false, false, false] kq5
    · have c4 := jv_b1 c4
      rw [if_pos c4] at hq5
      refine jv_aload_n (x := 35) (pc' := 22) hE dX8_startPaths_21 rfl 0 rfl rfl ?_
      refine jv_iconst (v := (1 : Int32)) (pc' := 23) hE dX8_startPaths_22 rfl (by decide) ?_
      refine jv_puti (x := (1 : Int32)) (pc' := 26) hE dX8_startPaths_23 rfl lP_X8_108 rfl rfl (by decide) (by decide) ?_
      refine jv_aload_n (x := 35) (pc' := 27) hE dX8_startPaths_26 rfl 0 rfl rfl ?_
      refine jv_iload_n (x := p1) (pc' := 28) hE dX8_startPaths_27 rfl 1 rfl rfl ?_
      refine jv_puti (x := p1) (pc' := 31) hE dX8_startPaths_28 rfl lP_X8_160 rfl rfl rfl rfl ?_
      refine jv_aload_n (x := 35) (pc' := 32) hE dX8_startPaths_31 rfl 0 rfl rfl ?_
      refine jv_iload_n (x := p2) (pc' := 33) hE dX8_startPaths_32 rfl 2 rfl rfl ?_
      refine jv_puti (x := p2) (pc' := 36) hE dX8_startPaths_33 rfl lP_X8_163 rfl rfl rfl rfl ?_
      refine jv_aload_n (x := 35) (pc' := 37) hE dX8_startPaths_36 rfl 0 rfl rfl ?_
      refine jv_iconst (v := (0 : Int32)) (pc' := 38) hE dX8_startPaths_37 rfl (by decide) ?_
      refine jv_puti (x := (0 : Int32)) (pc' := 41) hE dX8_startPaths_38 rfl lP_X8_138 rfl rfl rfl rfl ?_
      refine jv_aload_n (x := 35) (pc' := 42) hE dX8_startPaths_41 rfl 0 rfl rfl ?_
      refine jv_iconst (v := (0 : Int32)) (pc' := 43) hE dX8_startPaths_42 rfl (by decide) ?_
      refine jv_puti (x := (0 : Int32)) (pc' := 46) hE dX8_startPaths_43 rfl lP_X8_135 rfl rfl rfl rfl ?_
      cases hq5
      exact jv_forget [false, false, false] kq5
  refine jv_if_eq (x := (jv_b (f_X8_areTwo σ p1 p2))) (tgt := 14) (pc' := 10) hE dX8_startPaths_7 (by decide) rfl (fun c1 => ?_) (fun c1 => ?_)
  · have c1 := jv_b0 c1
    rw [if_neg c1] at hq2
    refine jv_iconst (v := (1 : Int32)) (pc' := 15) hE dX8_startPaths_14 rfl (by decide) ?_
    cases hq2
    exact jv_forget [true, true, true] kq2
  · have c1 := jv_b1 c1
    rw [if_pos c1] at hq2
    refine jv_iconst (v := (0 : Int32)) (pc' := 11) hE dX8_startPaths_10 rfl (by decide) ?_
    refine jv_goto (tgt := 15) hE dX8_startPaths_11 (by decide) ?_
    cases hq2
    exact jv_forget [true, true, true] kq2
noncomputable def f_X8_goesOn (σ : jv_S) (p1 : Int32) (p2 : Int32) (p3 : Int32) : Option (Bool) := jv_bd (f_X8_isUsable σ p1) (fun q1 => jv_bd (if q1 = true then (if jv_ck p1 24 = true then (if (σ.1 36 p1.toNatClampNeg) = p2 then (if jv_ck p1 24 = true then (if ((p3 >>> ((σ.1 37 p1.toNatClampNeg) &&& 31)) &&& (1 : Int32)) = 0 then (some true) else (some false)) else none) else (some false)) else none) else (some false)) (fun q3 => some q3))
set_option maxRecDepth 100000 in
set_option maxHeartbeats 4000000 in
theorem ok_X8_goesOn {G : jv_G} {l : Launch} {σ : jv_S} {p1 : Int32} {p2 : Int32} {p3 : Int32} {r : Bool} (h : f_X8_goesOn σ p1 p2 p3 = some r) : jv_Cn G l 2 M_X8_goesOn [.ref 35, .int p1, .int p2, .int p3] σ (some (.int (jv_b r))) σ := by
  refine jv_of (L0 := [some (.ref 35), some (.int p1), some (.int p2), some (.int p3)]) (by decide +kernel) (Nat.le_of_ble_eq_true rfl) rfl (jv_okZ _) (fun E e1 e2 hE hret => ?_)
  unfold f_X8_goesOn at h
  refine jv_aload_n (x := 35) (pc' := 1) hE dX8_goesOn_0 rfl 0 rfl rfl ?_
  refine jv_iload_n (x := p1) (pc' := 2) hE dX8_goesOn_1 rfl 1 rfl rfl ?_
  obtain ⟨q1, hq1, h⟩ := jv_bd_some h
  refine jv_callV (pc' := 5) (o := some (.int (jv_b q1))) (σ' := σ) hE dX8_goesOn_2 rfl lV_X8_127 (ok_X8_isUsable hq1) rfl rfl rfl (by decide) rfl (Nat.le_of_ble_eq_true rfl) ?_
  show jv_V E 5 [some (.ref 35), some (.int p1), some (.int p2), some (.int p3)] [.int (jv_b q1)] σ
  obtain ⟨q3, hq3, h⟩ := jv_bd_some h
  have kq3 : jv_V E 36 [none, none, none, none] [.int (jv_b q3)] σ := by
    cases h
    exact hret _ _ dX8_goesOn_36
  refine jv_if_eq (x := (jv_b q1)) (tgt := 35) (pc' := 8) hE dX8_goesOn_5 (by decide) rfl (fun c2 => ?_) (fun c2 => ?_)
  · have c2 := jv_b0 c2
    rw [if_neg c2] at hq3
    refine jv_iconst (v := (0 : Int32)) (pc' := 36) hE dX8_goesOn_35 rfl (by decide) ?_
    cases hq3
    exact jv_forget [false, false, false, false] kq3
  · have c2 := jv_b1 c2
    rw [if_pos c2] at hq3
    refine jv_aload_n (x := 35) (pc' := 9) hE dX8_goesOn_8 rfl 0 rfl rfl ?_
    refine jv_get (v := .ref 36) (pc' := 12) hE dX8_goesOn_9 rfl lF_X8_13 rfl rfl rfl ?_
    refine jv_iload_n (x := p1) (pc' := 13) hE dX8_goesOn_12 rfl 1 rfl rfl ?_
    by_cases c4 : jv_ck p1 24 = true
    · rw [if_pos c4] at hq3
      refine jv_iald (pc' := 14) hE dX8_goesOn_13 rfl rfl (jv_ck_in c4) ?_
      show jv_V E 14 [some (.ref 35), some (.int p1), some (.int p2), some (.int p3)] [.int (σ.1 36 p1.toNatClampNeg)] σ
      refine jv_iload_n (x := p2) (pc' := 15) hE dX8_goesOn_14 rfl 2 rfl rfl ?_
      refine jv_icmp_ne (x := (σ.1 36 p1.toNatClampNeg)) (y := p2) (tgt := 35) (pc' := 18) hE dX8_goesOn_15 (by decide) rfl (fun c5 => ?_) (fun c5 => ?_)
      · rw [if_neg c5] at hq3
        refine jv_iconst (v := (0 : Int32)) (pc' := 36) hE dX8_goesOn_35 rfl (by decide) ?_
        cases hq3
        exact jv_forget [false, false, false, false] kq3
      · rw [if_pos c5] at hq3
        refine jv_iload_n (x := p3) (pc' := 19) hE dX8_goesOn_18 rfl 3 rfl rfl ?_
        refine jv_aload_n (x := 35) (pc' := 20) hE dX8_goesOn_19 rfl 0 rfl rfl ?_
        refine jv_get (v := .ref 37) (pc' := 23) hE dX8_goesOn_20 rfl lF_X8_17 rfl rfl rfl ?_
        refine jv_iload_n (x := p1) (pc' := 24) hE dX8_goesOn_23 rfl 1 rfl rfl ?_
        by_cases c6 : jv_ck p1 24 = true
        · rw [if_pos c6] at hq3
          refine jv_iald (pc' := 25) hE dX8_goesOn_24 rfl rfl (jv_ck_in c6) ?_
          show jv_V E 25 [some (.ref 35), some (.int p1), some (.int p2), some (.int p3)] [.int (σ.1 37 p1.toNatClampNeg), .int p3] σ
          refine jv_ishr (x := p3) (y := (σ.1 37 p1.toNatClampNeg)) (pc' := 26) hE dX8_goesOn_25 rfl ?_
          refine jv_iconst (v := (1 : Int32)) (pc' := 27) hE dX8_goesOn_26 rfl (by decide) ?_
          refine jv_iand (x := (p3 >>> ((σ.1 37 p1.toNatClampNeg) &&& 31))) (y := (1 : Int32)) (pc' := 28) hE dX8_goesOn_27 rfl ?_
          refine jv_if_ne (x := ((p3 >>> ((σ.1 37 p1.toNatClampNeg) &&& 31)) &&& (1 : Int32))) (tgt := 35) (pc' := 31) hE dX8_goesOn_28 (by decide) rfl (fun c7 => ?_) (fun c7 => ?_)
          · rw [if_neg c7] at hq3
            refine jv_iconst (v := (0 : Int32)) (pc' := 36) hE dX8_goesOn_35 rfl (by decide) ?_
            cases hq3
            exact jv_forget [false, false, false, false] kq3
          · rw [if_pos c7] at hq3
            refine jv_iconst (v := (1 : Int32)) (pc' := 32) hE dX8_goesOn_31 rfl (by decide) ?_
            refine jv_goto (tgt := 36) hE dX8_goesOn_32 (by decide) ?_
            cases hq3
            exact jv_forget [false, false, false, false] kq3
        · rw [if_neg c6] at hq3; cases hq3
    · rw [if_neg c4] at hq3; cases hq3
noncomputable def f_X8_isBehind_lp2 (a1 : Int32) : Nat → Int32 → jv_S → Option (Int32)
  | 0, _, _ => none
  | n + 1, v2, σ => if a1 ≤ v2 then (some v2) else (if (σ.1 35 13) ≤ v2 then (some v2) else (if jv_ck v2 10 = true then (if jv_ck v2 10 = true then (if (σ.1 43 v2.toNatClampNeg) = (σ.1 42 v2.toNatClampNeg) then (f_X8_isBehind_lp2 a1 n (v2 + (1 : Int32)) σ) else (some v2)) else none) else none))
noncomputable def f_X8_isBehind (σ : jv_S) (p1 : Int32) : Option (Bool) := jv_bd (f_X8_isBehind_lp2 p1 jv_fuel (0 : Int32) σ) (fun q6 => jv_bd (if p1 ≤ q6 then (some false) else (if (σ.1 35 13) ≤ q6 then (some false) else (if jv_ck q6 10 = true then (if jv_ck q6 10 = true then (if (σ.1 43 q6.toNatClampNeg) ≤ (σ.1 42 q6.toNatClampNeg) then (some false) else (some true)) else none) else none))) (fun q8 => some q8))
set_option maxRecDepth 100000 in
set_option maxHeartbeats 4000000 in
theorem lp_X8_isBehind_2 {σ : jv_S} {a1 : Int32} {E : jv_E} (hE : jv_Cx E RX8 cX8_isBehind 3 1) : ∀ (n : Nat) (v2 : Int32)  (q : Int32), f_X8_isBehind_lp2 a1 n v2 σ = some q → (jv_V E 36 [some (.ref 35), some (.int a1), some (.int q)] [] σ) → jv_V E 2 [some (.ref 35), some (.int a1), some (.int v2)] [] σ := by
  intro n
  induction n with
  | zero =>
    intro v2 q h
    rw [f_X8_isBehind_lp2] at h
    cases h
  | succ n ih =>
    intro v2 q h hk
    rw [f_X8_isBehind_lp2] at h
    refine jv_iload_n (x := v2) (pc' := 3) hE dX8_isBehind_2 rfl 2 rfl rfl ?_
    refine jv_iload_n (x := a1) (pc' := 4) hE dX8_isBehind_3 rfl 1 rfl rfl ?_
    refine jv_icmp_ge (x := v2) (y := a1) (tgt := 36) (pc' := 7) hE dX8_isBehind_4 (by decide) rfl (fun c1 => ?_) (fun c1 => ?_)
    · rw [if_pos c1] at h
      cases h
      exact jv_forget [true, true, true] hk
    · rw [if_neg c1] at h
      refine jv_iload_n (x := v2) (pc' := 8) hE dX8_isBehind_7 rfl 2 rfl rfl ?_
      refine jv_aload_n (x := 35) (pc' := 9) hE dX8_isBehind_8 rfl 0 rfl rfl ?_
      refine jv_get (v := .int (σ.1 35 13)) (pc' := 12) hE dX8_isBehind_9 rfl lF_X8_135 rfl rfl rfl ?_
      refine jv_icmp_ge (x := v2) (y := (σ.1 35 13)) (tgt := 36) (pc' := 15) hE dX8_isBehind_12 (by decide) rfl (fun c2 => ?_) (fun c2 => ?_)
      · rw [if_pos c2] at h
        cases h
        exact jv_forget [true, true, true] hk
      · rw [if_neg c2] at h
        refine jv_aload_n (x := 35) (pc' := 16) hE dX8_isBehind_15 rfl 0 rfl rfl ?_
        refine jv_get (v := .ref 43) (pc' := 19) hE dX8_isBehind_16 rfl lF_X8_36 rfl rfl rfl ?_
        refine jv_iload_n (x := v2) (pc' := 20) hE dX8_isBehind_19 rfl 2 rfl rfl ?_
        by_cases c3 : jv_ck v2 10 = true
        · rw [if_pos c3] at h
          refine jv_iald (pc' := 21) hE dX8_isBehind_20 rfl rfl (jv_ck_in c3) ?_
          show jv_V E 21 [some (.ref 35), some (.int a1), some (.int v2)] [.int (σ.1 43 v2.toNatClampNeg)] σ
          refine jv_aload_n (x := 35) (pc' := 22) hE dX8_isBehind_21 rfl 0 rfl rfl ?_
          refine jv_get (v := .ref 42) (pc' := 25) hE dX8_isBehind_22 rfl lF_X8_33 rfl rfl rfl ?_
          refine jv_iload_n (x := v2) (pc' := 26) hE dX8_isBehind_25 rfl 2 rfl rfl ?_
          by_cases c4 : jv_ck v2 10 = true
          · rw [if_pos c4] at h
            refine jv_iald (pc' := 27) hE dX8_isBehind_26 rfl rfl (jv_ck_in c4) ?_
            show jv_V E 27 [some (.ref 35), some (.int a1), some (.int v2)] [.int (σ.1 42 v2.toNatClampNeg), .int (σ.1 43 v2.toNatClampNeg)] σ
            refine jv_icmp_ne (x := (σ.1 43 v2.toNatClampNeg)) (y := (σ.1 42 v2.toNatClampNeg)) (tgt := 36) (pc' := 30) hE dX8_isBehind_27 (by decide) rfl (fun c5 => ?_) (fun c5 => ?_)
            · rw [if_neg c5] at h
              cases h
              exact jv_forget [true, true, true] hk
            · rw [if_pos c5] at h
              refine jv_iinc (x := v2) (v := (v2 + (1 : Int32))) (L' := [some (.ref 35), some (.int a1), some (.int (v2 + (1 : Int32)))]) (pc' := 33) hE dX8_isBehind_30 rfl rfl rfl (by decide) rfl rfl ?_
              refine jv_goto (tgt := 2) hE dX8_isBehind_33 (by decide) ?_
              exact jv_forget [true, true, true] (ih (v2 + (1 : Int32)) _ h hk)
          · rw [if_neg c4] at h; cases h
        · rw [if_neg c3] at h; cases h
set_option maxRecDepth 100000 in
set_option maxHeartbeats 4000000 in
theorem ok_X8_isBehind {G : jv_G} {l : Launch} {σ : jv_S} {p1 : Int32} {r : Bool} (h : f_X8_isBehind σ p1 = some r) : jv_Cn G l 1 M_X8_isBehind [.ref 35, .int p1] σ (some (.int (jv_b r))) σ := by
  refine jv_of (L0 := [some (.ref 35), some (.int p1), none]) (by decide +kernel) (Nat.le_of_ble_eq_true rfl) rfl (jv_okZ _) (fun E e1 e2 hE hret => ?_)
  unfold f_X8_isBehind at h
  refine jv_iconst (v := (0 : Int32)) (pc' := 1) hE dX8_isBehind_0 rfl (by decide) ?_
  refine jv_istore_n (x := (0 : Int32)) (L' := [some (.ref 35), some (.int p1), some (.int (0 : Int32))]) (pc' := 2) hE dX8_isBehind_1 rfl 2 rfl (by decide) rfl rfl ?_
  obtain ⟨q6, hq6, h⟩ := jv_bd_some h
  refine jv_forget [true, true, true] (lp_X8_isBehind_2 hE jv_fuel (0 : Int32) _ hq6 ?_)
  refine jv_iload_n (x := q6) (pc' := 37) hE dX8_isBehind_36 rfl 2 rfl rfl ?_
  refine jv_iload_n (x := p1) (pc' := 38) hE dX8_isBehind_37 rfl 1 rfl rfl ?_
  obtain ⟨q8, hq8, h⟩ := jv_bd_some h
  have kq8 : jv_V E 69 [none, none, none] [.int (jv_b q8)] σ := by
    cases h
    exact hret _ _ dX8_isBehind_69
  refine jv_icmp_ge (x := q6) (y := p1) (tgt := 68) (pc' := 41) hE dX8_isBehind_38 (by decide) rfl (fun c7 => ?_) (fun c7 => ?_)
  · rw [if_pos c7] at hq8
    refine jv_iconst (v := (0 : Int32)) (pc' := 69) hE dX8_isBehind_68 rfl (by decide) ?_
    cases hq8
    exact jv_forget [false, false, false] kq8
  · rw [if_neg c7] at hq8
    refine jv_iload_n (x := q6) (pc' := 42) hE dX8_isBehind_41 rfl 2 rfl rfl ?_
    refine jv_aload_n (x := 35) (pc' := 43) hE dX8_isBehind_42 rfl 0 rfl rfl ?_
    refine jv_get (v := .int (σ.1 35 13)) (pc' := 46) hE dX8_isBehind_43 rfl lF_X8_135 rfl rfl rfl ?_
    refine jv_icmp_ge (x := q6) (y := (σ.1 35 13)) (tgt := 68) (pc' := 49) hE dX8_isBehind_46 (by decide) rfl (fun c9 => ?_) (fun c9 => ?_)
    · rw [if_pos c9] at hq8
      refine jv_iconst (v := (0 : Int32)) (pc' := 69) hE dX8_isBehind_68 rfl (by decide) ?_
      cases hq8
      exact jv_forget [false, false, false] kq8
    · rw [if_neg c9] at hq8
      refine jv_aload_n (x := 35) (pc' := 50) hE dX8_isBehind_49 rfl 0 rfl rfl ?_
      refine jv_get (v := .ref 43) (pc' := 53) hE dX8_isBehind_50 rfl lF_X8_36 rfl rfl rfl ?_
      refine jv_iload_n (x := q6) (pc' := 54) hE dX8_isBehind_53 rfl 2 rfl rfl ?_
      by_cases c10 : jv_ck q6 10 = true
      · rw [if_pos c10] at hq8
        refine jv_iald (pc' := 55) hE dX8_isBehind_54 rfl rfl (jv_ck_in c10) ?_
        show jv_V E 55 [some (.ref 35), some (.int p1), some (.int q6)] [.int (σ.1 43 q6.toNatClampNeg)] σ
        refine jv_aload_n (x := 35) (pc' := 56) hE dX8_isBehind_55 rfl 0 rfl rfl ?_
        refine jv_get (v := .ref 42) (pc' := 59) hE dX8_isBehind_56 rfl lF_X8_33 rfl rfl rfl ?_
        refine jv_iload_n (x := q6) (pc' := 60) hE dX8_isBehind_59 rfl 2 rfl rfl ?_
        by_cases c11 : jv_ck q6 10 = true
        · rw [if_pos c11] at hq8
          refine jv_iald (pc' := 61) hE dX8_isBehind_60 rfl rfl (jv_ck_in c11) ?_
          show jv_V E 61 [some (.ref 35), some (.int p1), some (.int q6)] [.int (σ.1 42 q6.toNatClampNeg), .int (σ.1 43 q6.toNatClampNeg)] σ
          refine jv_icmp_le (x := (σ.1 43 q6.toNatClampNeg)) (y := (σ.1 42 q6.toNatClampNeg)) (tgt := 68) (pc' := 64) hE dX8_isBehind_61 (by decide) rfl (fun c12 => ?_) (fun c12 => ?_)
          · rw [if_pos c12] at hq8
            refine jv_iconst (v := (0 : Int32)) (pc' := 69) hE dX8_isBehind_68 rfl (by decide) ?_
            cases hq8
            exact jv_forget [false, false, false] kq8
          · rw [if_neg c12] at hq8
            refine jv_iconst (v := (1 : Int32)) (pc' := 65) hE dX8_isBehind_64 rfl (by decide) ?_
            refine jv_goto (tgt := 69) hE dX8_isBehind_65 (by decide) ?_
            cases hq8
            exact jv_forget [false, false, false] kq8
        · rw [if_neg c11] at hq8; cases hq8
      · rw [if_neg c10] at hq8; cases hq8
noncomputable def f_X8_meets_lp69 (a1 : Int32) : Nat → Int32 → jv_S → Option (Int32 × jv_S)
  | 0, _, _ => none
  | n + 1, v4, σ => if a1 ≤ v4 then (some (v4, σ)) else (if jv_ck v4 10 = true then (if jv_ck v4 10 = true then (f_X8_meets_lp69 a1 n (v4 + (1 : Int32)) (jv_si σ 47 v4.toNatClampNeg (σ.1 43 v4.toNatClampNeg))) else none) else none)
noncomputable def f_X8_meets (σ : jv_S) (p1 : Int32) (p2 : Int32) : Option (jv_S) := jv_bd (if (σ.1 35 12) = 0 then (some true) else (if (σ.1 35 14) < p2 then (some true) else (if p2 = (σ.1 35 14) then (jv_bd (f_X8_isBehind σ p1) (fun q5 => if q5 = true then (some true) else (some false))) else (some false)))) (fun q2 => jv_bd (if q2 = true then (if (σ.1 35 21) = 0 then (jv_bd (f_X8_meets_lp69 p1 jv_fuel (0 : Int32) (jv_si (jv_si σ 35 21 p1) 35 22 p2)) (fun q10 => some q10.2)) else (if (σ.1 35 22) ≤ p2 then (some σ) else (jv_bd (f_X8_meets_lp69 p1 jv_fuel (0 : Int32) (jv_si (jv_si σ 35 21 p1) 35 22 p2)) (fun q12 => some q12.2)))) else (some σ)) (fun q8 => some q8))
set_option maxRecDepth 100000 in
set_option maxHeartbeats 4000000 in
theorem lp_X8_meets_69 {a1 : Int32} {E : jv_E} (hE : jv_Cx E RX8 cX8_meets 5 2) : ∀ (n : Nat) (v4 : Int32) (σ : jv_S) (q : Int32 × jv_S), f_X8_meets_lp69 a1 n v4 σ = some q → (jv_V E 95 [none, none, none, none, none] [] q.2) → jv_V E 69 [some (.ref 35), some (.int a1), none, none, some (.int v4)] [] σ := by
  intro n
  induction n with
  | zero =>
    intro v4 σ q h
    rw [f_X8_meets_lp69] at h
    cases h
  | succ n ih =>
    intro v4 σ q h hk
    rw [f_X8_meets_lp69] at h
    refine jv_iload (x := v4) (pc' := 71) hE dX8_meets_69 rfl rfl ?_
    refine jv_iload_n (x := a1) (pc' := 72) hE dX8_meets_71 rfl 1 rfl rfl ?_
    refine jv_icmp_ge (x := v4) (y := a1) (tgt := 95) (pc' := 75) hE dX8_meets_72 (by decide) rfl (fun c9 => ?_) (fun c9 => ?_)
    · rw [if_pos c9] at h
      cases h
      exact jv_forget [false, false, true, true, false] hk
    · rw [if_neg c9] at h
      refine jv_aload_n (x := 35) (pc' := 76) hE dX8_meets_75 rfl 0 rfl rfl ?_
      refine jv_get (v := .ref 47) (pc' := 79) hE dX8_meets_76 rfl lF_X8_48 rfl rfl rfl ?_
      refine jv_iload (x := v4) (pc' := 81) hE dX8_meets_79 rfl rfl ?_
      refine jv_aload_n (x := 35) (pc' := 82) hE dX8_meets_81 rfl 0 rfl rfl ?_
      refine jv_get (v := .ref 43) (pc' := 85) hE dX8_meets_82 rfl lF_X8_36 rfl rfl rfl ?_
      refine jv_iload (x := v4) (pc' := 87) hE dX8_meets_85 rfl rfl ?_
      by_cases c10 : jv_ck v4 10 = true
      · rw [if_pos c10] at h
        refine jv_iald (pc' := 88) hE dX8_meets_87 rfl rfl (jv_ck_in c10) ?_
        show jv_V E 88 [some (.ref 35), some (.int a1), none, none, some (.int v4)] [.int (σ.1 43 v4.toNatClampNeg), .int v4, .ref 47] σ
        by_cases c11 : jv_ck v4 10 = true
        · rw [if_pos c11] at h
          refine jv_iast (pc' := 89) hE dX8_meets_88 rfl rfl (jv_ck_in c11) ?_
          refine jv_iinc (x := v4) (v := (v4 + (1 : Int32))) (L' := [some (.ref 35), some (.int a1), none, none, some (.int (v4 + (1 : Int32)))]) (pc' := 92) hE dX8_meets_89 rfl rfl rfl (by decide) rfl rfl ?_
          refine jv_goto (tgt := 69) hE dX8_meets_92 (by decide) ?_
          exact jv_forget [true, true, true, true, true] (ih (v4 + (1 : Int32)) (jv_si σ 47 v4.toNatClampNeg (σ.1 43 v4.toNatClampNeg)) _ h hk)
        · rw [if_neg c11] at h; cases h
      · rw [if_neg c10] at h; cases h
set_option maxRecDepth 100000 in
set_option maxHeartbeats 4000000 in
theorem ok_X8_meets {G : jv_G} {l : Launch} {σ : jv_S} {p1 : Int32} {p2 : Int32} {r : jv_S} (h : f_X8_meets σ p1 p2 = some r) : jv_Cn G l 2 M_X8_meets [.ref 35, .int p1, .int p2] σ (none) r := by
  refine jv_of (L0 := [some (.ref 35), some (.int p1), some (.int p2), none, none]) (by decide +kernel) (Nat.le_of_ble_eq_true rfl) rfl jv_okV (fun E e1 e2 hE hret => ?_)
  unfold f_X8_meets at h
  refine jv_aload_n (x := 35) (pc' := 1) hE dX8_meets_0 rfl 0 rfl rfl ?_
  refine jv_get (v := .int (σ.1 35 12)) (pc' := 4) hE dX8_meets_1 rfl lF_X8_138 rfl rfl rfl ?_
  obtain ⟨q2, hq2, h⟩ := jv_bd_some h
  have kq2 : jv_V E 36 [some (.ref 35), some (.int p1), some (.int p2), none, none] [.int (jv_b q2)] σ := by
    refine jv_istore_n (x := (jv_b q2)) (L' := [some (.ref 35), some (.int p1), some (.int p2), some (.int (jv_b q2)), none]) (pc' := 37) hE dX8_meets_36 rfl 3 rfl (by decide) rfl rfl ?_
    refine jv_iload_n (x := (jv_b q2)) (pc' := 38) hE dX8_meets_37 rfl 3 rfl rfl ?_
    obtain ⟨q8, hq8, h⟩ := jv_bd_some h
    have kq8 : jv_V E 95 [none, none, none, none, none] [] q8 := by
      cases h
      exact hret _ _ dX8_meets_95
    refine jv_if_eq (x := (jv_b q2)) (tgt := 95) (pc' := 41) hE dX8_meets_38 (by decide) rfl (fun c7 => ?_) (fun c7 => ?_)
    · have c7 := jv_b0 c7
      rw [if_neg c7] at hq8
      cases hq8
      exact jv_forget [false, false, false, false, true] kq8
    · have c7 := jv_b1 c7
      rw [if_pos c7] at hq8
      refine jv_aload_n (x := 35) (pc' := 42) hE dX8_meets_41 rfl 0 rfl rfl ?_
      refine jv_get (v := .int (σ.1 35 21)) (pc' := 45) hE dX8_meets_42 rfl lF_X8_147 rfl rfl rfl ?_
      refine jv_if_eq (x := (σ.1 35 21)) (tgt := 56) (pc' := 48) hE dX8_meets_45 (by decide) rfl (fun c9 => ?_) (fun c9 => ?_)
      · rw [if_pos c9] at hq8
        refine jv_aload_n (x := 35) (pc' := 57) hE dX8_meets_56 rfl 0 rfl rfl ?_
        refine jv_iload_n (x := p1) (pc' := 58) hE dX8_meets_57 rfl 1 rfl rfl ?_
        refine jv_puti (x := p1) (pc' := 61) hE dX8_meets_58 rfl lP_X8_147 rfl rfl rfl rfl ?_
        refine jv_aload_n (x := 35) (pc' := 62) hE dX8_meets_61 rfl 0 rfl rfl ?_
        refine jv_iload_n (x := p2) (pc' := 63) hE dX8_meets_62 rfl 2 rfl rfl ?_
        refine jv_puti (x := p2) (pc' := 66) hE dX8_meets_63 rfl lP_X8_150 rfl rfl rfl rfl ?_
        refine jv_iconst (v := (0 : Int32)) (pc' := 67) hE dX8_meets_66 rfl (by decide) ?_
        refine jv_istore (x := (0 : Int32)) (L' := [some (.ref 35), some (.int p1), some (.int p2), some (.int (jv_b q2)), some (.int (0 : Int32))]) (pc' := 69) hE dX8_meets_67 rfl (by decide) rfl rfl ?_
        obtain ⟨q10, hq10, hq8⟩ := jv_bd_some hq8
        refine jv_forget [true, true, false, false, true] (lp_X8_meets_69 hE jv_fuel (0 : Int32) (jv_si (jv_si σ 35 21 p1) 35 22 p2) _ hq10 ?_)
        cases hq8
        exact jv_forget [true, true, true, true, true] kq8
      · rw [if_neg c9] at hq8
        refine jv_iload_n (x := p2) (pc' := 49) hE dX8_meets_48 rfl 2 rfl rfl ?_
        refine jv_aload_n (x := 35) (pc' := 50) hE dX8_meets_49 rfl 0 rfl rfl ?_
        refine jv_get (v := .int (σ.1 35 22)) (pc' := 53) hE dX8_meets_50 rfl lF_X8_150 rfl rfl rfl ?_
        refine jv_icmp_ge (x := p2) (y := (σ.1 35 22)) (tgt := 95) (pc' := 56) hE dX8_meets_53 (by decide) rfl (fun c11 => ?_) (fun c11 => ?_)
        · rw [if_pos c11] at hq8
          cases hq8
          exact jv_forget [false, false, false, false, true] kq8
        · rw [if_neg c11] at hq8
          refine jv_aload_n (x := 35) (pc' := 57) hE dX8_meets_56 rfl 0 rfl rfl ?_
          refine jv_iload_n (x := p1) (pc' := 58) hE dX8_meets_57 rfl 1 rfl rfl ?_
          refine jv_puti (x := p1) (pc' := 61) hE dX8_meets_58 rfl lP_X8_147 rfl rfl rfl rfl ?_
          refine jv_aload_n (x := 35) (pc' := 62) hE dX8_meets_61 rfl 0 rfl rfl ?_
          refine jv_iload_n (x := p2) (pc' := 63) hE dX8_meets_62 rfl 2 rfl rfl ?_
          refine jv_puti (x := p2) (pc' := 66) hE dX8_meets_63 rfl lP_X8_150 rfl rfl rfl rfl ?_
          refine jv_iconst (v := (0 : Int32)) (pc' := 67) hE dX8_meets_66 rfl (by decide) ?_
          refine jv_istore (x := (0 : Int32)) (L' := [some (.ref 35), some (.int p1), some (.int p2), some (.int (jv_b q2)), some (.int (0 : Int32))]) (pc' := 69) hE dX8_meets_67 rfl (by decide) rfl rfl ?_
          obtain ⟨q12, hq12, hq8⟩ := jv_bd_some hq8
          refine jv_forget [true, true, false, false, true] (lp_X8_meets_69 hE jv_fuel (0 : Int32) (jv_si (jv_si σ 35 21 p1) 35 22 p2) _ hq12 ?_)
          cases hq8
          exact jv_forget [true, true, true, true, true] kq8
  refine jv_if_eq (x := (σ.1 35 12)) (tgt := 31) (pc' := 7) hE dX8_meets_4 (by decide) rfl (fun c1 => ?_) (fun c1 => ?_)
  · rw [if_pos c1] at hq2
    refine jv_iconst (v := (1 : Int32)) (pc' := 32) hE dX8_meets_31 rfl (by decide) ?_
    refine jv_goto (tgt := 36) hE dX8_meets_32 (by decide) ?_
    cases hq2
    exact jv_forget [true, true, true, true, true] kq2
  · rw [if_neg c1] at hq2
    refine jv_iload_n (x := p2) (pc' := 8) hE dX8_meets_7 rfl 2 rfl rfl ?_
    refine jv_aload_n (x := 35) (pc' := 9) hE dX8_meets_8 rfl 0 rfl rfl ?_
    refine jv_get (v := .int (σ.1 35 14)) (pc' := 12) hE dX8_meets_9 rfl lF_X8_141 rfl rfl rfl ?_
    refine jv_icmp_gt (x := p2) (y := (σ.1 35 14)) (tgt := 31) (pc' := 15) hE dX8_meets_12 (by decide) rfl (fun c3 => ?_) (fun c3 => ?_)
    · rw [if_pos c3] at hq2
      refine jv_iconst (v := (1 : Int32)) (pc' := 32) hE dX8_meets_31 rfl (by decide) ?_
      refine jv_goto (tgt := 36) hE dX8_meets_32 (by decide) ?_
      cases hq2
      exact jv_forget [true, true, true, true, true] kq2
    · rw [if_neg c3] at hq2
      refine jv_iload_n (x := p2) (pc' := 16) hE dX8_meets_15 rfl 2 rfl rfl ?_
      refine jv_aload_n (x := 35) (pc' := 17) hE dX8_meets_16 rfl 0 rfl rfl ?_
      refine jv_get (v := .int (σ.1 35 14)) (pc' := 20) hE dX8_meets_17 rfl lF_X8_141 rfl rfl rfl ?_
      refine jv_icmp_ne (x := p2) (y := (σ.1 35 14)) (tgt := 35) (pc' := 23) hE dX8_meets_20 (by decide) rfl (fun c4 => ?_) (fun c4 => ?_)
      · rw [if_neg c4] at hq2
        refine jv_iconst (v := (0 : Int32)) (pc' := 36) hE dX8_meets_35 rfl (by decide) ?_
        cases hq2
        exact jv_forget [true, true, true, true, true] kq2
      · rw [if_pos c4] at hq2
        refine jv_aload_n (x := 35) (pc' := 24) hE dX8_meets_23 rfl 0 rfl rfl ?_
        refine jv_iload_n (x := p1) (pc' := 25) hE dX8_meets_24 rfl 1 rfl rfl ?_
        obtain ⟨q5, hq5, hq2⟩ := jv_bd_some hq2
        refine jv_callV (pc' := 28) (o := some (.int (jv_b q5))) (σ' := σ) hE dX8_meets_25 rfl lV_X8_144 (ok_X8_isBehind hq5) rfl rfl rfl (by decide) rfl (Nat.le_of_ble_eq_true rfl) ?_
        show jv_V E 28 [some (.ref 35), some (.int p1), some (.int p2), none, none] [.int (jv_b q5)] σ
        refine jv_if_eq (x := (jv_b q5)) (tgt := 35) (pc' := 31) hE dX8_meets_28 (by decide) rfl (fun c6 => ?_) (fun c6 => ?_)
        · have c6 := jv_b0 c6
          rw [if_neg c6] at hq2
          refine jv_iconst (v := (0 : Int32)) (pc' := 36) hE dX8_meets_35 rfl (by decide) ?_
          cases hq2
          exact jv_forget [true, true, true, true, true] kq2
        · have c6 := jv_b1 c6
          rw [if_pos c6] at hq2
          refine jv_iconst (v := (1 : Int32)) (pc' := 32) hE dX8_meets_31 rfl (by decide) ?_
          refine jv_goto (tgt := 36) hE dX8_meets_32 (by decide) ?_
          cases hq2
          exact jv_forget [true, true, true, true, true] kq2
noncomputable def f_X8_goesAlong_lp32 (a2 : Int32) (a3 : Int32) (a4 : Int32) : Nat → Int32 → Int32 → Int32 → jv_S → Option (Int32 × Int32 × Int32 × jv_S)
  | 0, _, _, _, _ => none
  | n + 1, v5, v6, v7, σ => if v6 < 0 then (some (v5, v6, v7, σ)) else (if jv_ck v6 10 = true then (if jv_ck v6 10 = true then (if jv_ck v6 10 = true then (jv_bd (if (σ.1 46 v6.toNatClampNeg) = (σ.1 35 2) then (if jv_ck v6 10 = true then (some (v5, (v6 + (-1 : Int32)), (v7 &&& (((1 : Int32) <<< ((σ.1 44 v6.toNatClampNeg) &&& 31)) ^^^ (-1 : Int32))), (jv_si σ 46 v6.toNatClampNeg ((σ.1 46 v6.toNatClampNeg) + (1 : Int32))))) else none) else (if jv_ck v6 10 = true then (jv_bd (f_X8_goesOn (jv_si σ 46 v6.toNatClampNeg ((σ.1 46 v6.toNatClampNeg) + (1 : Int32))) (σ.1 46 v6.toNatClampNeg) (σ.1 44 v6.toNatClampNeg) v7) (fun q11 => if q11 = true then (if jv_ck v6 10 = true then (if jv_ck (σ.1 46 v6.toNatClampNeg) 24 = true then (if jv_ck v6 10 = true then (if jv_ck (σ.1 46 v6.toNatClampNeg) 24 = true then (if (σ.1 37 (σ.1 46 v6.toNatClampNeg).toNatClampNeg) = a2 then (jv_lt (if a3 < ((σ.1 45 v6.toNatClampNeg) + (σ.1 38 (σ.1 46 v6.toNatClampNeg).toNatClampNeg)) then (false) else (true)) (fun q24 => if a4 = 0 then (some ((v5 + (jv_b q24)), v6, v7, (jv_si (jv_si σ 46 v6.toNatClampNeg ((σ.1 46 v6.toNatClampNeg) + (1 : Int32))) 43 v6.toNatClampNeg (σ.1 46 v6.toNatClampNeg)))) else (jv_bd (f_X8_meets (jv_si (jv_si σ 46 v6.toNatClampNeg ((σ.1 46 v6.toNatClampNeg) + (1 : Int32))) 43 v6.toNatClampNeg (σ.1 46 v6.toNatClampNeg)) (v6 + (1 : Int32)) ((σ.1 45 v6.toNatClampNeg) + (σ.1 38 (σ.1 46 v6.toNatClampNeg).toNatClampNeg))) (fun q26 => some ((v5 + (jv_b q24)), v6, v7, q26))))) else (if jv_ck (σ.1 46 v6.toNatClampNeg) 24 = true then (if jv_ck (v6 + (1 : Int32)) 10 = true then (if jv_ck (σ.1 46 v6.toNatClampNeg) 24 = true then (if jv_ck (v6 + (1 : Int32)) 10 = true then (if jv_ck (v6 + (1 : Int32)) 10 = true then (some (v5, (v6 + (1 : Int32)), (v7 ||| ((1 : Int32) <<< ((σ.1 37 (σ.1 46 v6.toNatClampNeg).toNatClampNeg) &&& 31))), (jv_si (jv_si (jv_si (jv_si (jv_si σ 46 v6.toNatClampNeg ((σ.1 46 v6.toNatClampNeg) + (1 : Int32))) 43 v6.toNatClampNeg (σ.1 46 v6.toNatClampNeg)) 44 (v6 + (1 : Int32)).toNatClampNeg (σ.1 37 (σ.1 46 v6.toNatClampNeg).toNatClampNeg)) 45 (v6 + (1 : Int32)).toNatClampNeg ((σ.1 45 v6.toNatClampNeg) + (σ.1 38 (σ.1 46 v6.toNatClampNeg).toNatClampNeg))) 46 (v6 + (1 : Int32)).toNatClampNeg (0 : Int32)))) else none) else none) else none) else none) else none)) else none) else none) else none) else none) else (some (v5, v6, v7, (jv_si σ 46 v6.toNatClampNeg ((σ.1 46 v6.toNatClampNeg) + (1 : Int32))))))) else none)) (fun q9 => f_X8_goesAlong_lp32 a2 a3 a4 n q9.1 q9.2.1 q9.2.2.1 q9.2.2.2)) else none) else none) else none)
noncomputable def f_X8_goesAlong (σ : jv_S) (p1 : Int32) (p2 : Int32) (p3 : Int32) (p4 : Int32) : Option (Int32 × jv_S) := if jv_ck (0 : Int32) 10 = true then (if jv_ck (0 : Int32) 10 = true then (if jv_ck (0 : Int32) 10 = true then (jv_bd (f_X8_goesAlong_lp32 p2 p3 p4 jv_fuel (0 : Int32) (0 : Int32) ((1 : Int32) <<< (p1 &&& 31)) (jv_si (jv_si (jv_si σ 44 (0 : Int32).toNatClampNeg p1) 45 (0 : Int32).toNatClampNeg (0 : Int32)) 46 (0 : Int32).toNatClampNeg (0 : Int32))) (fun q28 => some (q28.1, q28.2.2.2))) else none) else none) else none
set_option maxRecDepth 100000 in
set_option maxHeartbeats 4000000 in
theorem lp_X8_goesAlong_32 {a2 : Int32} {a3 : Int32} {a4 : Int32} {E : jv_E} (hE : jv_Cx E RX8 cX8_goesAlong 10 3) : ∀ (n : Nat) (v5 : Int32) (v6 : Int32) (v7 : Int32) (σ : jv_S) (q : Int32 × Int32 × Int32 × jv_S), f_X8_goesAlong_lp32 a2 a3 a4 n v5 v6 v7 σ = some q → (jv_V E 228 [none, none, none, none, none, some (.int q.1), none, none, none, none] [] q.2.2.2) → jv_V E 32 [some (.ref 35), none, some (.int a2), some (.int a3), some (.int a4), some (.int v5), some (.int v6), some (.int v7), none, none] [] σ := by
  intro n
  induction n with
  | zero =>
    intro v5 v6 v7 σ q h
    rw [f_X8_goesAlong_lp32] at h
    cases h
  | succ n ih =>
    intro v5 v6 v7 σ q h hk
    rw [f_X8_goesAlong_lp32] at h
    refine jv_iload (x := v6) (pc' := 34) hE dX8_goesAlong_32 rfl rfl ?_
    refine jv_if_lt (x := v6) (tgt := 228) (pc' := 37) hE dX8_goesAlong_34 (by decide) rfl (fun c4 => ?_) (fun c4 => ?_)
    · rw [if_pos c4] at h
      cases h
      exact jv_forget [false, true, false, false, false, true, false, false, true, true] hk
    · rw [if_neg c4] at h
      refine jv_aload_n (x := 35) (pc' := 38) hE dX8_goesAlong_37 rfl 0 rfl rfl ?_
      refine jv_get (v := .ref 46) (pc' := 41) hE dX8_goesAlong_38 rfl lF_X8_45 rfl rfl rfl ?_
      refine jv_iload (x := v6) (pc' := 43) hE dX8_goesAlong_41 rfl rfl ?_
      by_cases c5 : jv_ck v6 10 = true
      · rw [if_pos c5] at h
        refine jv_iald (pc' := 44) hE dX8_goesAlong_43 rfl rfl (jv_ck_in c5) ?_
        show jv_V E 44 [some (.ref 35), none, some (.int a2), some (.int a3), some (.int a4), some (.int v5), some (.int v6), some (.int v7), none, none] [.int (σ.1 46 v6.toNatClampNeg)] σ
        refine jv_istore (x := (σ.1 46 v6.toNatClampNeg)) (L' := [some (.ref 35), none, some (.int a2), some (.int a3), some (.int a4), some (.int v5), some (.int v6), some (.int v7), some (.int (σ.1 46 v6.toNatClampNeg)), none]) (pc' := 46) hE dX8_goesAlong_44 rfl (by decide) rfl rfl ?_
        refine jv_aload_n (x := 35) (pc' := 47) hE dX8_goesAlong_46 rfl 0 rfl rfl ?_
        refine jv_get (v := .ref 46) (pc' := 50) hE dX8_goesAlong_47 rfl lF_X8_45 rfl rfl rfl ?_
        refine jv_iload (x := v6) (pc' := 52) hE dX8_goesAlong_50 rfl rfl ?_
        refine jv_dup2 (pc' := 53) hE dX8_goesAlong_52 rfl rfl rfl ?_
        by_cases c6 : jv_ck v6 10 = true
        · rw [if_pos c6] at h
          refine jv_iald (pc' := 54) hE dX8_goesAlong_53 rfl rfl (jv_ck_in c6) ?_
          show jv_V E 54 [some (.ref 35), none, some (.int a2), some (.int a3), some (.int a4), some (.int v5), some (.int v6), some (.int v7), some (.int (σ.1 46 v6.toNatClampNeg)), none] [.int (σ.1 46 v6.toNatClampNeg), .int v6, .ref 46] σ
          refine jv_iconst (v := (1 : Int32)) (pc' := 55) hE dX8_goesAlong_54 rfl (by decide) ?_
          refine jv_iadd (x := (σ.1 46 v6.toNatClampNeg)) (y := (1 : Int32)) (pc' := 56) hE dX8_goesAlong_55 rfl ?_
          by_cases c7 : jv_ck v6 10 = true
          · rw [if_pos c7] at h
            refine jv_iast (pc' := 57) hE dX8_goesAlong_56 rfl rfl (jv_ck_in c7) ?_
            refine jv_iload (x := (σ.1 46 v6.toNatClampNeg)) (pc' := 59) hE dX8_goesAlong_57 rfl rfl ?_
            refine jv_aload_n (x := 35) (pc' := 60) hE dX8_goesAlong_59 rfl 0 rfl rfl ?_
            refine jv_get (v := .int (σ.1 35 2)) (pc' := 63) hE dX8_goesAlong_60 rfl lF_X8_105 rfl rfl rfl ?_
            obtain ⟨q9, hq9, h⟩ := jv_bd_some h
            have kq9 : jv_V E 225 [some (.ref 35), none, some (.int a2), some (.int a3), some (.int a4), some (.int q9.1), some (.int q9.2.1), some (.int q9.2.2.1), none, none] [] q9.2.2.2 := by
              refine jv_goto (tgt := 32) hE dX8_goesAlong_225 (by decide) ?_
              exact jv_forget [true, true, true, true, true, true, true, true, true, true] (ih q9.1 q9.2.1 q9.2.2.1 q9.2.2.2 _ h hk)
            refine jv_icmp_ne (x := (σ.1 46 v6.toNatClampNeg)) (y := (σ.1 35 2)) (tgt := 88) (pc' := 66) hE dX8_goesAlong_63 (by decide) rfl (fun c8 => ?_) (fun c8 => ?_)
            · rw [if_neg c8] at hq9
              refine jv_aload_n (x := 35) (pc' := 89) hE dX8_goesAlong_88 rfl 0 rfl rfl ?_
              refine jv_iload (x := (σ.1 46 v6.toNatClampNeg)) (pc' := 91) hE dX8_goesAlong_89 rfl rfl ?_
              refine jv_aload_n (x := 35) (pc' := 92) hE dX8_goesAlong_91 rfl 0 rfl rfl ?_
              refine jv_get (v := .ref 44) (pc' := 95) hE dX8_goesAlong_92 rfl lF_X8_39 rfl rfl rfl ?_
              refine jv_iload (x := v6) (pc' := 97) hE dX8_goesAlong_95 rfl rfl ?_
              by_cases c10 : jv_ck v6 10 = true
              · rw [if_pos c10] at hq9
                refine jv_iald (pc' := 98) hE dX8_goesAlong_97 rfl rfl (jv_ck_in c10) ?_
                show jv_V E 98 [some (.ref 35), none, some (.int a2), some (.int a3), some (.int a4), some (.int v5), some (.int v6), some (.int v7), some (.int (σ.1 46 v6.toNatClampNeg)), none] [.int (σ.1 44 v6.toNatClampNeg), .int (σ.1 46 v6.toNatClampNeg), .ref 35] (jv_si σ 46 v6.toNatClampNeg ((σ.1 46 v6.toNatClampNeg) + (1 : Int32)))
                refine jv_iload (x := v7) (pc' := 100) hE dX8_goesAlong_98 rfl rfl ?_
                obtain ⟨q11, hq11, hq9⟩ := jv_bd_some hq9
                refine jv_callV (pc' := 103) (o := some (.int (jv_b q11))) (σ' := (jv_si σ 46 v6.toNatClampNeg ((σ.1 46 v6.toNatClampNeg) + (1 : Int32)))) hE dX8_goesAlong_100 rfl lV_X8_153 (ok_X8_goesOn hq11) rfl rfl rfl (by decide) rfl (Nat.le_of_ble_eq_true rfl) ?_
                show jv_V E 103 [some (.ref 35), none, some (.int a2), some (.int a3), some (.int a4), some (.int v5), some (.int v6), some (.int v7), some (.int (σ.1 46 v6.toNatClampNeg)), none] [.int (jv_b q11)] (jv_si σ 46 v6.toNatClampNeg ((σ.1 46 v6.toNatClampNeg) + (1 : Int32)))
                refine jv_if_eq (x := (jv_b q11)) (tgt := 225) (pc' := 106) hE dX8_goesAlong_103 (by decide) rfl (fun c12 => ?_) (fun c12 => ?_)
                · have c12 := jv_b0 c12
                  rw [if_neg c12] at hq9
                  cases hq9
                  exact jv_forget [true, true, true, true, true, true, true, true, false, true] kq9
                · have c12 := jv_b1 c12
                  rw [if_pos c12] at hq9
                  refine jv_aload_n (x := 35) (pc' := 107) hE dX8_goesAlong_106 rfl 0 rfl rfl ?_
                  refine jv_get (v := .ref 45) (pc' := 110) hE dX8_goesAlong_107 rfl lF_X8_42 rfl rfl rfl ?_
                  refine jv_iload (x := v6) (pc' := 112) hE dX8_goesAlong_110 rfl rfl ?_
                  by_cases c13 : jv_ck v6 10 = true
                  · rw [if_pos c13] at hq9
                    refine jv_iald (pc' := 113) hE dX8_goesAlong_112 rfl rfl (jv_ck_in c13) ?_
                    show jv_V E 113 [some (.ref 35), none, some (.int a2), some (.int a3), some (.int a4), some (.int v5), some (.int v6), some (.int v7), some (.int (σ.1 46 v6.toNatClampNeg)), none] [.int (σ.1 45 v6.toNatClampNeg)] (jv_si σ 46 v6.toNatClampNeg ((σ.1 46 v6.toNatClampNeg) + (1 : Int32)))
                    refine jv_aload_n (x := 35) (pc' := 114) hE dX8_goesAlong_113 rfl 0 rfl rfl ?_
                    refine jv_get (v := .ref 38) (pc' := 117) hE dX8_goesAlong_114 rfl lF_X8_20 rfl rfl rfl ?_
                    refine jv_iload (x := (σ.1 46 v6.toNatClampNeg)) (pc' := 119) hE dX8_goesAlong_117 rfl rfl ?_
                    by_cases c14 : jv_ck (σ.1 46 v6.toNatClampNeg) 24 = true
                    · rw [if_pos c14] at hq9
                      refine jv_iald (pc' := 120) hE dX8_goesAlong_119 rfl rfl (jv_ck_in c14) ?_
                      show jv_V E 120 [some (.ref 35), none, some (.int a2), some (.int a3), some (.int a4), some (.int v5), some (.int v6), some (.int v7), some (.int (σ.1 46 v6.toNatClampNeg)), none] [.int (σ.1 38 (σ.1 46 v6.toNatClampNeg).toNatClampNeg), .int (σ.1 45 v6.toNatClampNeg)] (jv_si σ 46 v6.toNatClampNeg ((σ.1 46 v6.toNatClampNeg) + (1 : Int32)))
                      refine jv_iadd (x := (σ.1 45 v6.toNatClampNeg)) (y := (σ.1 38 (σ.1 46 v6.toNatClampNeg).toNatClampNeg)) (pc' := 121) hE dX8_goesAlong_120 rfl ?_
                      refine jv_istore (x := ((σ.1 45 v6.toNatClampNeg) + (σ.1 38 (σ.1 46 v6.toNatClampNeg).toNatClampNeg))) (L' := [some (.ref 35), none, some (.int a2), some (.int a3), some (.int a4), some (.int v5), some (.int v6), some (.int v7), some (.int (σ.1 46 v6.toNatClampNeg)), some (.int ((σ.1 45 v6.toNatClampNeg) + (σ.1 38 (σ.1 46 v6.toNatClampNeg).toNatClampNeg)))]) (pc' := 123) hE dX8_goesAlong_121 rfl (by decide) rfl rfl ?_
                      refine jv_aload_n (x := 35) (pc' := 124) hE dX8_goesAlong_123 rfl 0 rfl rfl ?_
                      refine jv_get (v := .ref 43) (pc' := 127) hE dX8_goesAlong_124 rfl lF_X8_36 rfl rfl rfl ?_
                      refine jv_iload (x := v6) (pc' := 129) hE dX8_goesAlong_127 rfl rfl ?_
                      refine jv_iload (x := (σ.1 46 v6.toNatClampNeg)) (pc' := 131) hE dX8_goesAlong_129 rfl rfl ?_
                      by_cases c15 : jv_ck v6 10 = true
                      · rw [if_pos c15] at hq9
                        refine jv_iast (pc' := 132) hE dX8_goesAlong_131 rfl rfl (jv_ck_in c15) ?_
                        refine jv_aload_n (x := 35) (pc' := 133) hE dX8_goesAlong_132 rfl 0 rfl rfl ?_
                        refine jv_get (v := .ref 37) (pc' := 136) hE dX8_goesAlong_133 rfl lF_X8_17 rfl rfl rfl ?_
                        refine jv_iload (x := (σ.1 46 v6.toNatClampNeg)) (pc' := 138) hE dX8_goesAlong_136 rfl rfl ?_
                        by_cases c16 : jv_ck (σ.1 46 v6.toNatClampNeg) 24 = true
                        · rw [if_pos c16] at hq9
                          refine jv_iald (pc' := 139) hE dX8_goesAlong_138 rfl rfl (jv_ck_in c16) ?_
                          show jv_V E 139 [some (.ref 35), none, some (.int a2), some (.int a3), some (.int a4), some (.int v5), some (.int v6), some (.int v7), some (.int (σ.1 46 v6.toNatClampNeg)), some (.int ((σ.1 45 v6.toNatClampNeg) + (σ.1 38 (σ.1 46 v6.toNatClampNeg).toNatClampNeg)))] [.int (σ.1 37 (σ.1 46 v6.toNatClampNeg).toNatClampNeg)] (jv_si (jv_si σ 46 v6.toNatClampNeg ((σ.1 46 v6.toNatClampNeg) + (1 : Int32))) 43 v6.toNatClampNeg (σ.1 46 v6.toNatClampNeg))
                          refine jv_iload_n (x := a2) (pc' := 140) hE dX8_goesAlong_139 rfl 2 rfl rfl ?_
                          refine jv_icmp_ne (x := (σ.1 37 (σ.1 46 v6.toNatClampNeg).toNatClampNeg)) (y := a2) (tgt := 177) (pc' := 143) hE dX8_goesAlong_140 (by decide) rfl (fun c17 => ?_) (fun c17 => ?_)
                          · rw [if_neg c17] at hq9
                            refine jv_iinc (x := v6) (v := (v6 + (1 : Int32))) (L' := [some (.ref 35), none, some (.int a2), some (.int a3), some (.int a4), some (.int v5), some (.int (v6 + (1 : Int32))), some (.int v7), some (.int (σ.1 46 v6.toNatClampNeg)), some (.int ((σ.1 45 v6.toNatClampNeg) + (σ.1 38 (σ.1 46 v6.toNatClampNeg).toNatClampNeg)))]) (pc' := 180) hE dX8_goesAlong_177 rfl rfl rfl (by decide) rfl rfl ?_
                            refine jv_aload_n (x := 35) (pc' := 181) hE dX8_goesAlong_180 rfl 0 rfl rfl ?_
                            refine jv_get (v := .ref 44) (pc' := 184) hE dX8_goesAlong_181 rfl lF_X8_39 rfl rfl rfl ?_
                            refine jv_iload (x := (v6 + (1 : Int32))) (pc' := 186) hE dX8_goesAlong_184 rfl rfl ?_
                            refine jv_aload_n (x := 35) (pc' := 187) hE dX8_goesAlong_186 rfl 0 rfl rfl ?_
                            refine jv_get (v := .ref 37) (pc' := 190) hE dX8_goesAlong_187 rfl lF_X8_17 rfl rfl rfl ?_
                            refine jv_iload (x := (σ.1 46 v6.toNatClampNeg)) (pc' := 192) hE dX8_goesAlong_190 rfl rfl ?_
                            by_cases c18 : jv_ck (σ.1 46 v6.toNatClampNeg) 24 = true
                            · rw [if_pos c18] at hq9
                              refine jv_iald (pc' := 193) hE dX8_goesAlong_192 rfl rfl (jv_ck_in c18) ?_
                              show jv_V E 193 [some (.ref 35), none, some (.int a2), some (.int a3), some (.int a4), some (.int v5), some (.int (v6 + (1 : Int32))), some (.int v7), some (.int (σ.1 46 v6.toNatClampNeg)), some (.int ((σ.1 45 v6.toNatClampNeg) + (σ.1 38 (σ.1 46 v6.toNatClampNeg).toNatClampNeg)))] [.int (σ.1 37 (σ.1 46 v6.toNatClampNeg).toNatClampNeg), .int (v6 + (1 : Int32)), .ref 44] (jv_si (jv_si σ 46 v6.toNatClampNeg ((σ.1 46 v6.toNatClampNeg) + (1 : Int32))) 43 v6.toNatClampNeg (σ.1 46 v6.toNatClampNeg))
                              by_cases c19 : jv_ck (v6 + (1 : Int32)) 10 = true
                              · rw [if_pos c19] at hq9
                                refine jv_iast (pc' := 194) hE dX8_goesAlong_193 rfl rfl (jv_ck_in c19) ?_
                                refine jv_iload (x := v7) (pc' := 196) hE dX8_goesAlong_194 rfl rfl ?_
                                refine jv_iconst (v := (1 : Int32)) (pc' := 197) hE dX8_goesAlong_196 rfl (by decide) ?_
                                refine jv_aload_n (x := 35) (pc' := 198) hE dX8_goesAlong_197 rfl 0 rfl rfl ?_
                                refine jv_get (v := .ref 37) (pc' := 201) hE dX8_goesAlong_198 rfl lF_X8_17 rfl rfl rfl ?_
                                refine jv_iload (x := (σ.1 46 v6.toNatClampNeg)) (pc' := 203) hE dX8_goesAlong_201 rfl rfl ?_
                                by_cases c20 : jv_ck (σ.1 46 v6.toNatClampNeg) 24 = true
                                · rw [if_pos c20] at hq9
                                  refine jv_iald (pc' := 204) hE dX8_goesAlong_203 rfl rfl (jv_ck_in c20) ?_
                                  show jv_V E 204 [some (.ref 35), none, some (.int a2), some (.int a3), some (.int a4), some (.int v5), some (.int (v6 + (1 : Int32))), some (.int v7), some (.int (σ.1 46 v6.toNatClampNeg)), some (.int ((σ.1 45 v6.toNatClampNeg) + (σ.1 38 (σ.1 46 v6.toNatClampNeg).toNatClampNeg)))] [.int (σ.1 37 (σ.1 46 v6.toNatClampNeg).toNatClampNeg), .int (1 : Int32), .int v7] (jv_si (jv_si (jv_si σ 46 v6.toNatClampNeg ((σ.1 46 v6.toNatClampNeg) + (1 : Int32))) 43 v6.toNatClampNeg (σ.1 46 v6.toNatClampNeg)) 44 (v6 + (1 : Int32)).toNatClampNeg (σ.1 37 (σ.1 46 v6.toNatClampNeg).toNatClampNeg))
                                  refine jv_ishl (x := (1 : Int32)) (y := (σ.1 37 (σ.1 46 v6.toNatClampNeg).toNatClampNeg)) (pc' := 205) hE dX8_goesAlong_204 rfl ?_
                                  refine jv_ior (x := v7) (y := ((1 : Int32) <<< ((σ.1 37 (σ.1 46 v6.toNatClampNeg).toNatClampNeg) &&& 31))) (pc' := 206) hE dX8_goesAlong_205 rfl ?_
                                  refine jv_istore (x := (v7 ||| ((1 : Int32) <<< ((σ.1 37 (σ.1 46 v6.toNatClampNeg).toNatClampNeg) &&& 31)))) (L' := [some (.ref 35), none, some (.int a2), some (.int a3), some (.int a4), some (.int v5), some (.int (v6 + (1 : Int32))), some (.int (v7 ||| ((1 : Int32) <<< ((σ.1 37 (σ.1 46 v6.toNatClampNeg).toNatClampNeg) &&& 31)))), some (.int (σ.1 46 v6.toNatClampNeg)), some (.int ((σ.1 45 v6.toNatClampNeg) + (σ.1 38 (σ.1 46 v6.toNatClampNeg).toNatClampNeg)))]) (pc' := 208) hE dX8_goesAlong_206 rfl (by decide) rfl rfl ?_
                                  refine jv_aload_n (x := 35) (pc' := 209) hE dX8_goesAlong_208 rfl 0 rfl rfl ?_
                                  refine jv_get (v := .ref 45) (pc' := 212) hE dX8_goesAlong_209 rfl lF_X8_42 rfl rfl rfl ?_
                                  refine jv_iload (x := (v6 + (1 : Int32))) (pc' := 214) hE dX8_goesAlong_212 rfl rfl ?_
                                  refine jv_iload (x := ((σ.1 45 v6.toNatClampNeg) + (σ.1 38 (σ.1 46 v6.toNatClampNeg).toNatClampNeg))) (pc' := 216) hE dX8_goesAlong_214 rfl rfl ?_
                                  by_cases c21 : jv_ck (v6 + (1 : Int32)) 10 = true
                                  · rw [if_pos c21] at hq9
                                    refine jv_iast (pc' := 217) hE dX8_goesAlong_216 rfl rfl (jv_ck_in c21) ?_
                                    refine jv_aload_n (x := 35) (pc' := 218) hE dX8_goesAlong_217 rfl 0 rfl rfl ?_
                                    refine jv_get (v := .ref 46) (pc' := 221) hE dX8_goesAlong_218 rfl lF_X8_45 rfl rfl rfl ?_
                                    refine jv_iload (x := (v6 + (1 : Int32))) (pc' := 223) hE dX8_goesAlong_221 rfl rfl ?_
                                    refine jv_iconst (v := (0 : Int32)) (pc' := 224) hE dX8_goesAlong_223 rfl (by decide) ?_
                                    by_cases c22 : jv_ck (v6 + (1 : Int32)) 10 = true
                                    · rw [if_pos c22] at hq9
                                      refine jv_iast (pc' := 225) hE dX8_goesAlong_224 rfl rfl (jv_ck_in c22) ?_
                                      cases hq9
                                      exact jv_forget [true, true, true, true, true, true, true, true, false, false] kq9
                                    · rw [if_neg c22] at hq9; cases hq9
                                  · rw [if_neg c21] at hq9; cases hq9
                                · rw [if_neg c20] at hq9; cases hq9
                              · rw [if_neg c19] at hq9; cases hq9
                            · rw [if_neg c18] at hq9; cases hq9
                          · rw [if_pos c17] at hq9
                            refine jv_iload (x := v5) (pc' := 145) hE dX8_goesAlong_143 rfl rfl ?_
                            refine jv_iload (x := ((σ.1 45 v6.toNatClampNeg) + (σ.1 38 (σ.1 46 v6.toNatClampNeg).toNatClampNeg))) (pc' := 147) hE dX8_goesAlong_145 rfl rfl ?_
                            refine jv_iload_n (x := a3) (pc' := 148) hE dX8_goesAlong_147 rfl 3 rfl rfl ?_
                            obtain ⟨q24, hq24, hq9⟩ := jv_lt_eq hq9
                            have kq24 : jv_V E 156 [some (.ref 35), none, some (.int a2), some (.int a3), some (.int a4), none, some (.int v6), some (.int v7), none, some (.int ((σ.1 45 v6.toNatClampNeg) + (σ.1 38 (σ.1 46 v6.toNatClampNeg).toNatClampNeg)))] [.int (jv_b q24), .int v5] (jv_si (jv_si σ 46 v6.toNatClampNeg ((σ.1 46 v6.toNatClampNeg) + (1 : Int32))) 43 v6.toNatClampNeg (σ.1 46 v6.toNatClampNeg)) := by
                              refine jv_iadd (x := v5) (y := (jv_b q24)) (pc' := 157) hE dX8_goesAlong_156 rfl ?_
                              refine jv_istore (x := (v5 + (jv_b q24))) (L' := [some (.ref 35), none, some (.int a2), some (.int a3), some (.int a4), some (.int (v5 + (jv_b q24))), some (.int v6), some (.int v7), none, some (.int ((σ.1 45 v6.toNatClampNeg) + (σ.1 38 (σ.1 46 v6.toNatClampNeg).toNatClampNeg)))]) (pc' := 159) hE dX8_goesAlong_157 rfl (by decide) rfl rfl ?_
                              refine jv_iload (x := a4) (pc' := 161) hE dX8_goesAlong_159 rfl rfl ?_
                              refine jv_if_eq (x := a4) (tgt := 225) (pc' := 164) hE dX8_goesAlong_161 (by decide) rfl (fun c25 => ?_) (fun c25 => ?_)
                              · rw [if_pos c25] at hq9
                                cases hq9
                                exact jv_forget [true, true, true, true, true, true, true, true, true, false] kq9
                              · rw [if_neg c25] at hq9
                                refine jv_aload_n (x := 35) (pc' := 165) hE dX8_goesAlong_164 rfl 0 rfl rfl ?_
                                refine jv_iload (x := v6) (pc' := 167) hE dX8_goesAlong_165 rfl rfl ?_
                                refine jv_iconst (v := (1 : Int32)) (pc' := 168) hE dX8_goesAlong_167 rfl (by decide) ?_
                                refine jv_iadd (x := v6) (y := (1 : Int32)) (pc' := 169) hE dX8_goesAlong_168 rfl ?_
                                refine jv_iload (x := ((σ.1 45 v6.toNatClampNeg) + (σ.1 38 (σ.1 46 v6.toNatClampNeg).toNatClampNeg))) (pc' := 171) hE dX8_goesAlong_169 rfl rfl ?_
                                obtain ⟨q26, hq26, hq9⟩ := jv_bd_some hq9
                                refine jv_callV (pc' := 174) (o := none) (σ' := q26) hE dX8_goesAlong_171 rfl lV_X8_156 (ok_X8_meets hq26) rfl rfl rfl (by decide) rfl (Nat.le_of_ble_eq_true rfl) ?_
                                show jv_V E 174 [some (.ref 35), none, some (.int a2), some (.int a3), some (.int a4), some (.int (v5 + (jv_b q24))), some (.int v6), some (.int v7), none, some (.int ((σ.1 45 v6.toNatClampNeg) + (σ.1 38 (σ.1 46 v6.toNatClampNeg).toNatClampNeg)))] [] q26
                                refine jv_goto (tgt := 225) hE dX8_goesAlong_174 (by decide) ?_
                                cases hq9
                                exact jv_forget [true, true, true, true, true, true, true, true, true, false] kq9
                            refine jv_icmp_gt (x := ((σ.1 45 v6.toNatClampNeg) + (σ.1 38 (σ.1 46 v6.toNatClampNeg).toNatClampNeg))) (y := a3) (tgt := 155) (pc' := 151) hE dX8_goesAlong_148 (by decide) rfl (fun c23 => ?_) (fun c23 => ?_)
                            · rw [if_pos c23] at hq24
                              refine jv_iconst (v := (0 : Int32)) (pc' := 156) hE dX8_goesAlong_155 rfl (by decide) ?_
                              cases hq24
                              exact jv_forget [true, true, true, true, true, false, true, true, false, true] kq24
                            · rw [if_neg c23] at hq24
                              refine jv_iconst (v := (1 : Int32)) (pc' := 152) hE dX8_goesAlong_151 rfl (by decide) ?_
                              refine jv_goto (tgt := 156) hE dX8_goesAlong_152 (by decide) ?_
                              cases hq24
                              exact jv_forget [true, true, true, true, true, false, true, true, false, true] kq24
                        · rw [if_neg c16] at hq9; cases hq9
                      · rw [if_neg c15] at hq9; cases hq9
                    · rw [if_neg c14] at hq9; cases hq9
                  · rw [if_neg c13] at hq9; cases hq9
              · rw [if_neg c10] at hq9; cases hq9
            · rw [if_pos c8] at hq9
              refine jv_iload (x := v7) (pc' := 68) hE dX8_goesAlong_66 rfl rfl ?_
              refine jv_iconst (v := (1 : Int32)) (pc' := 69) hE dX8_goesAlong_68 rfl (by decide) ?_
              refine jv_aload_n (x := 35) (pc' := 70) hE dX8_goesAlong_69 rfl 0 rfl rfl ?_
              refine jv_get (v := .ref 44) (pc' := 73) hE dX8_goesAlong_70 rfl lF_X8_39 rfl rfl rfl ?_
              refine jv_iload (x := v6) (pc' := 75) hE dX8_goesAlong_73 rfl rfl ?_
              by_cases c27 : jv_ck v6 10 = true
              · rw [if_pos c27] at hq9
                refine jv_iald (pc' := 76) hE dX8_goesAlong_75 rfl rfl (jv_ck_in c27) ?_
                show jv_V E 76 [some (.ref 35), none, some (.int a2), some (.int a3), some (.int a4), some (.int v5), some (.int v6), some (.int v7), some (.int (σ.1 46 v6.toNatClampNeg)), none] [.int (σ.1 44 v6.toNatClampNeg), .int (1 : Int32), .int v7] (jv_si σ 46 v6.toNatClampNeg ((σ.1 46 v6.toNatClampNeg) + (1 : Int32)))
                refine jv_ishl (x := (1 : Int32)) (y := (σ.1 44 v6.toNatClampNeg)) (pc' := 77) hE dX8_goesAlong_76 rfl ?_
                refine jv_iconst (v := (-1 : Int32)) (pc' := 78) hE dX8_goesAlong_77 rfl (by decide) ?_
                refine jv_ixor (x := ((1 : Int32) <<< ((σ.1 44 v6.toNatClampNeg) &&& 31))) (y := (-1 : Int32)) (pc' := 79) hE dX8_goesAlong_78 rfl ?_
                refine jv_iand (x := v7) (y := (((1 : Int32) <<< ((σ.1 44 v6.toNatClampNeg) &&& 31)) ^^^ (-1 : Int32))) (pc' := 80) hE dX8_goesAlong_79 rfl ?_
                refine jv_istore (x := (v7 &&& (((1 : Int32) <<< ((σ.1 44 v6.toNatClampNeg) &&& 31)) ^^^ (-1 : Int32)))) (L' := [some (.ref 35), none, some (.int a2), some (.int a3), some (.int a4), some (.int v5), some (.int v6), some (.int (v7 &&& (((1 : Int32) <<< ((σ.1 44 v6.toNatClampNeg) &&& 31)) ^^^ (-1 : Int32)))), some (.int (σ.1 46 v6.toNatClampNeg)), none]) (pc' := 82) hE dX8_goesAlong_80 rfl (by decide) rfl rfl ?_
                refine jv_iinc (x := v6) (v := (v6 + (-1 : Int32))) (L' := [some (.ref 35), none, some (.int a2), some (.int a3), some (.int a4), some (.int v5), some (.int (v6 + (-1 : Int32))), some (.int (v7 &&& (((1 : Int32) <<< ((σ.1 44 v6.toNatClampNeg) &&& 31)) ^^^ (-1 : Int32)))), some (.int (σ.1 46 v6.toNatClampNeg)), none]) (pc' := 85) hE dX8_goesAlong_82 rfl rfl rfl (by decide) rfl rfl ?_
                refine jv_goto (tgt := 225) hE dX8_goesAlong_85 (by decide) ?_
                cases hq9
                exact jv_forget [true, true, true, true, true, true, true, true, false, true] kq9
              · rw [if_neg c27] at hq9; cases hq9
          · rw [if_neg c7] at h; cases h
        · rw [if_neg c6] at h; cases h
      · rw [if_neg c5] at h; cases h
set_option maxRecDepth 100000 in
set_option maxHeartbeats 4000000 in
theorem ok_X8_goesAlong {G : jv_G} {l : Launch} {σ : jv_S} {p1 : Int32} {p2 : Int32} {p3 : Int32} {p4 : Int32} {r : Int32 × jv_S} (h : f_X8_goesAlong σ p1 p2 p3 p4 = some r) : jv_Cn G l 3 M_X8_goesAlong [.ref 35, .int p1, .int p2, .int p3, .int p4] σ (some (.int r.1)) r.2 := by
  refine jv_of (L0 := [some (.ref 35), some (.int p1), some (.int p2), some (.int p3), some (.int p4), none, none, none, none, none]) (by decide +kernel) (Nat.le_of_ble_eq_true rfl) rfl (jv_okI _) (fun E e1 e2 hE hret => ?_)
  unfold f_X8_goesAlong at h
  refine jv_iconst (v := (0 : Int32)) (pc' := 1) hE dX8_goesAlong_0 rfl (by decide) ?_
  refine jv_istore (x := (0 : Int32)) (L' := [some (.ref 35), some (.int p1), some (.int p2), some (.int p3), some (.int p4), some (.int (0 : Int32)), none, none, none, none]) (pc' := 3) hE dX8_goesAlong_1 rfl (by decide) rfl rfl ?_
  refine jv_iconst (v := (0 : Int32)) (pc' := 4) hE dX8_goesAlong_3 rfl (by decide) ?_
  refine jv_istore (x := (0 : Int32)) (L' := [some (.ref 35), some (.int p1), some (.int p2), some (.int p3), some (.int p4), some (.int (0 : Int32)), some (.int (0 : Int32)), none, none, none]) (pc' := 6) hE dX8_goesAlong_4 rfl (by decide) rfl rfl ?_
  refine jv_iconst (v := (1 : Int32)) (pc' := 7) hE dX8_goesAlong_6 rfl (by decide) ?_
  refine jv_iload_n (x := p1) (pc' := 8) hE dX8_goesAlong_7 rfl 1 rfl rfl ?_
  refine jv_ishl (x := (1 : Int32)) (y := p1) (pc' := 9) hE dX8_goesAlong_8 rfl ?_
  refine jv_istore (x := ((1 : Int32) <<< (p1 &&& 31))) (L' := [some (.ref 35), some (.int p1), some (.int p2), some (.int p3), some (.int p4), some (.int (0 : Int32)), some (.int (0 : Int32)), some (.int ((1 : Int32) <<< (p1 &&& 31))), none, none]) (pc' := 11) hE dX8_goesAlong_9 rfl (by decide) rfl rfl ?_
  refine jv_aload_n (x := 35) (pc' := 12) hE dX8_goesAlong_11 rfl 0 rfl rfl ?_
  refine jv_get (v := .ref 44) (pc' := 15) hE dX8_goesAlong_12 rfl lF_X8_39 rfl rfl rfl ?_
  refine jv_iconst (v := (0 : Int32)) (pc' := 16) hE dX8_goesAlong_15 rfl (by decide) ?_
  refine jv_iload_n (x := p1) (pc' := 17) hE dX8_goesAlong_16 rfl 1 rfl rfl ?_
  by_cases c1 : jv_ck (0 : Int32) 10 = true
  · rw [if_pos c1] at h
    refine jv_iast (pc' := 18) hE dX8_goesAlong_17 rfl rfl (jv_ck_in c1) ?_
    refine jv_aload_n (x := 35) (pc' := 19) hE dX8_goesAlong_18 rfl 0 rfl rfl ?_
    refine jv_get (v := .ref 45) (pc' := 22) hE dX8_goesAlong_19 rfl lF_X8_42 rfl rfl rfl ?_
    refine jv_iconst (v := (0 : Int32)) (pc' := 23) hE dX8_goesAlong_22 rfl (by decide) ?_
    refine jv_iconst (v := (0 : Int32)) (pc' := 24) hE dX8_goesAlong_23 rfl (by decide) ?_
    by_cases c2 : jv_ck (0 : Int32) 10 = true
    · rw [if_pos c2] at h
      refine jv_iast (pc' := 25) hE dX8_goesAlong_24 rfl rfl (jv_ck_in c2) ?_
      refine jv_aload_n (x := 35) (pc' := 26) hE dX8_goesAlong_25 rfl 0 rfl rfl ?_
      refine jv_get (v := .ref 46) (pc' := 29) hE dX8_goesAlong_26 rfl lF_X8_45 rfl rfl rfl ?_
      refine jv_iconst (v := (0 : Int32)) (pc' := 30) hE dX8_goesAlong_29 rfl (by decide) ?_
      refine jv_iconst (v := (0 : Int32)) (pc' := 31) hE dX8_goesAlong_30 rfl (by decide) ?_
      by_cases c3 : jv_ck (0 : Int32) 10 = true
      · rw [if_pos c3] at h
        refine jv_iast (pc' := 32) hE dX8_goesAlong_31 rfl rfl (jv_ck_in c3) ?_
        obtain ⟨q28, hq28, h⟩ := jv_bd_some h
        refine jv_forget [true, false, true, true, true, true, true, true, true, true] (lp_X8_goesAlong_32 hE jv_fuel (0 : Int32) (0 : Int32) ((1 : Int32) <<< (p1 &&& 31)) (jv_si (jv_si (jv_si σ 44 (0 : Int32).toNatClampNeg p1) 45 (0 : Int32).toNatClampNeg (0 : Int32)) 46 (0 : Int32).toNatClampNeg (0 : Int32)) _ hq28 ?_)
        refine jv_iload (x := q28.1) (pc' := 230) hE dX8_goesAlong_228 rfl rfl ?_
        cases h
        exact hret _ _ dX8_goesAlong_230
      · rw [if_neg c3] at h; cases h
    · rw [if_neg c2] at h; cases h
  · rw [if_neg c1] at h; cases h
noncomputable def f_X8_nextPath_lp91 : Nat → Int32 → jv_S → Option (Int32 × jv_S)
  | 0, _, _ => none
  | n + 1, v2, σ => if (σ.1 35 13) ≤ v2 then (some (v2, σ)) else (if jv_ck v2 10 = true then (if jv_ck v2 10 = true then (f_X8_nextPath_lp91 n (v2 + (1 : Int32)) (jv_si σ 42 v2.toNatClampNeg (σ.1 47 v2.toNatClampNeg))) else none) else none)
noncomputable def f_X8_nextPath (σ : jv_S) : Option (Int32 × jv_S) := jv_bd (if (σ.1 35 9) = 0 then (some ((0 : Int32), (jv_si σ 35 21 (0 : Int32)))) else (jv_bd (f_X8_goesAlong (jv_si σ 35 21 (0 : Int32)) (σ.1 35 10) (σ.1 35 11) (0 : Int32) (1 : Int32)) (fun q3 => some (q3.1, q3.2)))) (fun q2 => jv_lt (if (q2.2.1 35 9) = 0 then ((1 : Int32)) else (if (q2.2.1 35 21) = 0 then ((2 : Int32)) else ((0 : Int32)))) (fun q5 => jv_lt (f_X8_holds q2.2 q5) (fun q7 => if q7.1 = true then (jv_bd (f_X8_nextPath_lp91 jv_fuel (0 : Int32) (jv_si (jv_si (jv_si q7.2 35 13 (q7.2.1 35 21)) 35 14 (q7.2.1 35 22)) 35 12 ((q7.2.1 35 12) + (1 : Int32)))) (fun q12 => some ((q12.2.1 35 14), q12.2))) else (some ((0 : Int32), q7.2)))))
set_option maxRecDepth 100000 in
set_option maxHeartbeats 4000000 in
theorem lp_X8_nextPath_91 {E : jv_E} (hE : jv_Cx E RX8 cX8_nextPath 3 4) : ∀ (n : Nat) (v2 : Int32) (σ : jv_S) (q : Int32 × jv_S), f_X8_nextPath_lp91 n v2 σ = some q → (jv_V E 117 [some (.ref 35), none, none] [] q.2) → jv_V E 91 [some (.ref 35), none, some (.int v2)] [] σ := by
  intro n
  induction n with
  | zero =>
    intro v2 σ q h
    rw [f_X8_nextPath_lp91] at h
    cases h
  | succ n ih =>
    intro v2 σ q h hk
    rw [f_X8_nextPath_lp91] at h
    refine jv_iload_n (x := v2) (pc' := 92) hE dX8_nextPath_91 rfl 2 rfl rfl ?_
    refine jv_aload_n (x := 35) (pc' := 93) hE dX8_nextPath_92 rfl 0 rfl rfl ?_
    refine jv_get (v := .int (σ.1 35 13)) (pc' := 96) hE dX8_nextPath_93 rfl lF_X8_135 rfl rfl rfl ?_
    refine jv_icmp_ge (x := v2) (y := (σ.1 35 13)) (tgt := 117) (pc' := 99) hE dX8_nextPath_96 (by decide) rfl (fun c9 => ?_) (fun c9 => ?_)
    · rw [if_pos c9] at h
      cases h
      exact jv_forget [true, true, false] hk
    · rw [if_neg c9] at h
      refine jv_aload_n (x := 35) (pc' := 100) hE dX8_nextPath_99 rfl 0 rfl rfl ?_
      refine jv_get (v := .ref 42) (pc' := 103) hE dX8_nextPath_100 rfl lF_X8_33 rfl rfl rfl ?_
      refine jv_iload_n (x := v2) (pc' := 104) hE dX8_nextPath_103 rfl 2 rfl rfl ?_
      refine jv_aload_n (x := 35) (pc' := 105) hE dX8_nextPath_104 rfl 0 rfl rfl ?_
      refine jv_get (v := .ref 47) (pc' := 108) hE dX8_nextPath_105 rfl lF_X8_48 rfl rfl rfl ?_
      refine jv_iload_n (x := v2) (pc' := 109) hE dX8_nextPath_108 rfl 2 rfl rfl ?_
      by_cases c10 : jv_ck v2 10 = true
      · rw [if_pos c10] at h
        refine jv_iald (pc' := 110) hE dX8_nextPath_109 rfl rfl (jv_ck_in c10) ?_
        show jv_V E 110 [some (.ref 35), none, some (.int v2)] [.int (σ.1 47 v2.toNatClampNeg), .int v2, .ref 42] σ
        by_cases c11 : jv_ck v2 10 = true
        · rw [if_pos c11] at h
          refine jv_iast (pc' := 111) hE dX8_nextPath_110 rfl rfl (jv_ck_in c11) ?_
          refine jv_iinc (x := v2) (v := (v2 + (1 : Int32))) (L' := [some (.ref 35), none, some (.int (v2 + (1 : Int32)))]) (pc' := 114) hE dX8_nextPath_111 rfl rfl rfl (by decide) rfl rfl ?_
          refine jv_goto (tgt := 91) hE dX8_nextPath_114 (by decide) ?_
          exact jv_forget [true, true, true] (ih (v2 + (1 : Int32)) (jv_si σ 42 v2.toNatClampNeg (σ.1 47 v2.toNatClampNeg)) _ h hk)
        · rw [if_neg c11] at h; cases h
      · rw [if_neg c10] at h; cases h
set_option maxRecDepth 100000 in
set_option maxHeartbeats 4000000 in
theorem ok_X8_nextPath {G : jv_G} {l : Launch} {σ : jv_S} {r : Int32 × jv_S} (h : f_X8_nextPath σ = some r) : jv_Cn G l 4 M_X8_nextPath [.ref 35] σ (some (.int r.1)) r.2 := by
  refine jv_of (L0 := [some (.ref 35), none, none]) (by decide +kernel) (Nat.le_of_ble_eq_true rfl) rfl (jv_okI _) (fun E e1 e2 hE hret => ?_)
  unfold f_X8_nextPath at h
  refine jv_aload_n (x := 35) (pc' := 1) hE dX8_nextPath_0 rfl 0 rfl rfl ?_
  refine jv_iconst (v := (0 : Int32)) (pc' := 2) hE dX8_nextPath_1 rfl (by decide) ?_
  refine jv_puti (x := (0 : Int32)) (pc' := 5) hE dX8_nextPath_2 rfl lP_X8_147 rfl rfl rfl rfl ?_
  refine jv_aload_n (x := 35) (pc' := 6) hE dX8_nextPath_5 rfl 0 rfl rfl ?_
  refine jv_get (v := .int (σ.1 35 9)) (pc' := 9) hE dX8_nextPath_6 rfl lF_X8_108 rfl rfl rfl ?_
  obtain ⟨q2, hq2, h⟩ := jv_bd_some h
  have kq2 : jv_V E 30 [some (.ref 35), none, none] [.int q2.1] q2.2 := by
    refine jv_istore_n (x := q2.1) (L' := [some (.ref 35), some (.int q2.1), none]) (pc' := 31) hE dX8_nextPath_30 rfl 1 rfl (by decide) rfl rfl ?_
    refine jv_aload_n (x := 35) (pc' := 32) hE dX8_nextPath_31 rfl 0 rfl rfl ?_
    refine jv_aload_n (x := 35) (pc' := 33) hE dX8_nextPath_32 rfl 0 rfl rfl ?_
    refine jv_get (v := .int (q2.2.1 35 9)) (pc' := 36) hE dX8_nextPath_33 rfl lF_X8_108 rfl rfl rfl ?_
    obtain ⟨q5, hq5, h⟩ := jv_lt_eq h
    have kq5 : jv_V E 55 [some (.ref 35), none, none] [.int q5, .ref 35] q2.2 := by
      obtain ⟨q7, hq7, h⟩ := jv_lt_eq h
      refine jv_callV (pc' := 58) (o := some (.int (jv_b q7.1))) (σ' := q7.2) hE dX8_nextPath_55 rfl lV_X8_115 (ok_X8_holds hq7) rfl rfl rfl (by decide) rfl (Nat.le_of_ble_eq_true rfl) ?_
      show jv_V E 58 [some (.ref 35), none, none] [.int (jv_b q7.1)] q7.2
      refine jv_if_ne (x := (jv_b q7.1)) (tgt := 63) (pc' := 61) hE dX8_nextPath_58 (by decide) rfl (fun c8 => ?_) (fun c8 => ?_)
      · have c8 := jv_b1 c8
        rw [if_pos c8] at h
        refine jv_aload_n (x := 35) (pc' := 64) hE dX8_nextPath_63 rfl 0 rfl rfl ?_
        refine jv_aload_n (x := 35) (pc' := 65) hE dX8_nextPath_64 rfl 0 rfl rfl ?_
        refine jv_get (v := .int (q7.2.1 35 21)) (pc' := 68) hE dX8_nextPath_65 rfl lF_X8_147 rfl rfl rfl ?_
        refine jv_puti (x := (q7.2.1 35 21)) (pc' := 71) hE dX8_nextPath_68 rfl lP_X8_135 rfl rfl rfl rfl ?_
        refine jv_aload_n (x := 35) (pc' := 72) hE dX8_nextPath_71 rfl 0 rfl rfl ?_
        refine jv_aload_n (x := 35) (pc' := 73) hE dX8_nextPath_72 rfl 0 rfl rfl ?_
        refine jv_get (v := .int (q7.2.1 35 22)) (pc' := 76) hE dX8_nextPath_73 rfl lF_X8_150 rfl rfl rfl ?_
        refine jv_puti (x := (q7.2.1 35 22)) (pc' := 79) hE dX8_nextPath_76 rfl lP_X8_141 rfl rfl rfl rfl ?_
        refine jv_aload_n (x := 35) (pc' := 80) hE dX8_nextPath_79 rfl 0 rfl rfl ?_
        refine jv_dup (pc' := 81) hE dX8_nextPath_80 rfl rfl ?_
        refine jv_get (v := .int (q7.2.1 35 12)) (pc' := 84) hE dX8_nextPath_81 rfl lF_X8_138 rfl rfl rfl ?_
        refine jv_iconst (v := (1 : Int32)) (pc' := 85) hE dX8_nextPath_84 rfl (by decide) ?_
        refine jv_iadd (x := (q7.2.1 35 12)) (y := (1 : Int32)) (pc' := 86) hE dX8_nextPath_85 rfl ?_
        refine jv_puti (x := ((q7.2.1 35 12) + (1 : Int32))) (pc' := 89) hE dX8_nextPath_86 rfl lP_X8_138 rfl rfl rfl rfl ?_
        refine jv_iconst (v := (0 : Int32)) (pc' := 90) hE dX8_nextPath_89 rfl (by decide) ?_
        refine jv_istore_n (x := (0 : Int32)) (L' := [some (.ref 35), none, some (.int (0 : Int32))]) (pc' := 91) hE dX8_nextPath_90 rfl 2 rfl (by decide) rfl rfl ?_
        obtain ⟨q12, hq12, h⟩ := jv_bd_some h
        refine jv_forget [true, true, true] (lp_X8_nextPath_91 hE jv_fuel (0 : Int32) (jv_si (jv_si (jv_si q7.2 35 13 (q7.2.1 35 21)) 35 14 (q7.2.1 35 22)) 35 12 ((q7.2.1 35 12) + (1 : Int32))) _ hq12 ?_)
        refine jv_aload_n (x := 35) (pc' := 118) hE dX8_nextPath_117 rfl 0 rfl rfl ?_
        refine jv_get (v := .int (q12.2.1 35 14)) (pc' := 121) hE dX8_nextPath_118 rfl lF_X8_141 rfl rfl rfl ?_
        cases h
        exact hret _ _ dX8_nextPath_121
      · have c8 := jv_b0 c8
        rw [if_neg c8] at h
        refine jv_iconst (v := (0 : Int32)) (pc' := 62) hE dX8_nextPath_61 rfl (by decide) ?_
        cases h
        exact hret _ _ dX8_nextPath_62
    refine jv_if_ne (x := (q2.2.1 35 9)) (tgt := 43) (pc' := 39) hE dX8_nextPath_36 (by decide) rfl (fun c4 => ?_) (fun c4 => ?_)
    · rw [if_neg c4] at hq5
      refine jv_aload_n (x := 35) (pc' := 44) hE dX8_nextPath_43 rfl 0 rfl rfl ?_
      refine jv_get (v := .int (q2.2.1 35 21)) (pc' := 47) hE dX8_nextPath_44 rfl lF_X8_147 rfl rfl rfl ?_
      refine jv_if_ne (x := (q2.2.1 35 21)) (tgt := 54) (pc' := 50) hE dX8_nextPath_47 (by decide) rfl (fun c6 => ?_) (fun c6 => ?_)
      · rw [if_neg c6] at hq5
        refine jv_iconst (v := (0 : Int32)) (pc' := 55) hE dX8_nextPath_54 rfl (by decide) ?_
        cases hq5
        exact jv_forget [true, false, true] kq5
      · rw [if_pos c6] at hq5
        refine jv_iconst (v := (2 : Int32)) (pc' := 51) hE dX8_nextPath_50 rfl (by decide) ?_
        refine jv_goto (tgt := 55) hE dX8_nextPath_51 (by decide) ?_
        cases hq5
        exact jv_forget [true, false, true] kq5
    · rw [if_pos c4] at hq5
      refine jv_iconst (v := (1 : Int32)) (pc' := 40) hE dX8_nextPath_39 rfl (by decide) ?_
      refine jv_goto (tgt := 55) hE dX8_nextPath_40 (by decide) ?_
      cases hq5
      exact jv_forget [true, false, true] kq5
  refine jv_if_eq (x := (σ.1 35 9)) (tgt := 29) (pc' := 12) hE dX8_nextPath_9 (by decide) rfl (fun c1 => ?_) (fun c1 => ?_)
  · rw [if_pos c1] at hq2
    refine jv_iconst (v := (0 : Int32)) (pc' := 30) hE dX8_nextPath_29 rfl (by decide) ?_
    cases hq2
    exact jv_forget [true, true, true] kq2
  · rw [if_neg c1] at hq2
    refine jv_aload_n (x := 35) (pc' := 13) hE dX8_nextPath_12 rfl 0 rfl rfl ?_
    refine jv_aload_n (x := 35) (pc' := 14) hE dX8_nextPath_13 rfl 0 rfl rfl ?_
    refine jv_get (v := .int (σ.1 35 10)) (pc' := 17) hE dX8_nextPath_14 rfl lF_X8_160 rfl rfl rfl ?_
    refine jv_aload_n (x := 35) (pc' := 18) hE dX8_nextPath_17 rfl 0 rfl rfl ?_
    refine jv_get (v := .int (σ.1 35 11)) (pc' := 21) hE dX8_nextPath_18 rfl lF_X8_163 rfl rfl rfl ?_
    refine jv_iconst (v := (0 : Int32)) (pc' := 22) hE dX8_nextPath_21 rfl (by decide) ?_
    refine jv_iconst (v := (1 : Int32)) (pc' := 23) hE dX8_nextPath_22 rfl (by decide) ?_
    obtain ⟨q3, hq3, hq2⟩ := jv_bd_some hq2
    refine jv_callV (pc' := 26) (o := some (.int q3.1)) (σ' := q3.2) hE dX8_nextPath_23 rfl lV_X8_166 (ok_X8_goesAlong hq3) rfl rfl rfl (by decide) rfl (Nat.le_of_ble_eq_true rfl) ?_
    show jv_V E 26 [some (.ref 35), none, none] [.int q3.1] q3.2
    refine jv_goto (tgt := 30) hE dX8_nextPath_26 (by decide) ?_
    cases hq2
    exact jv_forget [true, true, true] kq2
noncomputable def f_X8_pathsDrawn (σ : jv_S) : Int32 × jv_S := jv_lt (if (σ.1 35 9) = 0 then (true) else (false)) (fun q2 => jv_lt (f_X8_holds σ (jv_b q2)) (fun q3 => jv_lt (if q3.1 = true then ((q3.2.1 35 12)) else ((0 : Int32))) (fun q5 => (q5, q3.2))))
set_option maxRecDepth 100000 in
set_option maxHeartbeats 4000000 in
theorem ok_X8_pathsDrawn {G : jv_G} {l : Launch} {σ : jv_S} {r : Int32 × jv_S} (h : f_X8_pathsDrawn σ = r) : jv_Cn G l 2 M_X8_pathsDrawn [.ref 35] σ (some (.int r.1)) r.2 := by
  refine jv_of (L0 := [some (.ref 35)]) (by decide +kernel) (Nat.le_of_ble_eq_true rfl) rfl (jv_okI _) (fun E e1 e2 hE hret => ?_)
  unfold f_X8_pathsDrawn at h
  refine jv_aload_n (x := 35) (pc' := 1) hE dX8_pathsDrawn_0 rfl 0 rfl rfl ?_
  refine jv_aload_n (x := 35) (pc' := 2) hE dX8_pathsDrawn_1 rfl 0 rfl rfl ?_
  refine jv_get (v := .int (σ.1 35 9)) (pc' := 5) hE dX8_pathsDrawn_2 rfl lF_X8_108 rfl rfl rfl ?_
  obtain ⟨q2, hq2, h⟩ := jv_lt_eq h
  have kq2 : jv_V E 13 [some (.ref 35)] [.int (jv_b q2), .ref 35] σ := by
    obtain ⟨q3, hq3, h⟩ := jv_lt_eq h
    refine jv_callV (pc' := 16) (o := some (.int (jv_b q3.1))) (σ' := q3.2) hE dX8_pathsDrawn_13 rfl lV_X8_115 (ok_X8_holds hq3) rfl rfl rfl (by decide) rfl (Nat.le_of_ble_eq_true rfl) ?_
    show jv_V E 16 [some (.ref 35)] [.int (jv_b q3.1)] q3.2
    obtain ⟨q5, hq5, h⟩ := jv_lt_eq h
    have kq5 : jv_V E 27 [none] [.int q5] q3.2 := by
      cases h
      exact hret _ _ dX8_pathsDrawn_27
    refine jv_if_eq (x := (jv_b q3.1)) (tgt := 26) (pc' := 19) hE dX8_pathsDrawn_16 (by decide) rfl (fun c4 => ?_) (fun c4 => ?_)
    · have c4 := jv_b0 c4
      rw [if_neg c4] at hq5
      refine jv_iconst (v := (0 : Int32)) (pc' := 27) hE dX8_pathsDrawn_26 rfl (by decide) ?_
      cases hq5
      exact jv_forget [false] kq5
    · have c4 := jv_b1 c4
      rw [if_pos c4] at hq5
      refine jv_aload_n (x := 35) (pc' := 20) hE dX8_pathsDrawn_19 rfl 0 rfl rfl ?_
      refine jv_get (v := .int (q3.2.1 35 12)) (pc' := 23) hE dX8_pathsDrawn_20 rfl lF_X8_138 rfl rfl rfl ?_
      refine jv_goto (tgt := 27) hE dX8_pathsDrawn_23 (by decide) ?_
      cases hq5
      exact jv_forget [false] kq5
  refine jv_if_eq (x := (σ.1 35 9)) (tgt := 12) (pc' := 8) hE dX8_pathsDrawn_5 (by decide) rfl (fun c1 => ?_) (fun c1 => ?_)
  · rw [if_pos c1] at hq2
    refine jv_iconst (v := (1 : Int32)) (pc' := 13) hE dX8_pathsDrawn_12 rfl (by decide) ?_
    cases hq2
    exact jv_forget [true] kq2
  · rw [if_neg c1] at hq2
    refine jv_iconst (v := (0 : Int32)) (pc' := 9) hE dX8_pathsDrawn_8 rfl (by decide) ?_
    refine jv_goto (tgt := 13) hE dX8_pathsDrawn_9 (by decide) ?_
    cases hq2
    exact jv_forget [true] kq2
noncomputable def f_X8_pathEdges (σ : jv_S) : Int32 × jv_S := jv_lt (if (σ.1 35 9) = 0 then ((1 : Int32)) else (if (σ.1 35 12) = 0 then ((2 : Int32)) else ((0 : Int32)))) (fun q2 => jv_lt (f_X8_holds σ q2) (fun q4 => jv_lt (if q4.1 = true then ((q4.2.1 35 13)) else ((0 : Int32))) (fun q6 => (q6, q4.2))))
set_option maxRecDepth 100000 in
set_option maxHeartbeats 4000000 in
theorem ok_X8_pathEdges {G : jv_G} {l : Launch} {σ : jv_S} {r : Int32 × jv_S} (h : f_X8_pathEdges σ = r) : jv_Cn G l 2 M_X8_pathEdges [.ref 35] σ (some (.int r.1)) r.2 := by
  refine jv_of (L0 := [some (.ref 35)]) (by decide +kernel) (Nat.le_of_ble_eq_true rfl) rfl (jv_okI _) (fun E e1 e2 hE hret => ?_)
  unfold f_X8_pathEdges at h
  refine jv_aload_n (x := 35) (pc' := 1) hE dX8_pathEdges_0 rfl 0 rfl rfl ?_
  refine jv_aload_n (x := 35) (pc' := 2) hE dX8_pathEdges_1 rfl 0 rfl rfl ?_
  refine jv_get (v := .int (σ.1 35 9)) (pc' := 5) hE dX8_pathEdges_2 rfl lF_X8_108 rfl rfl rfl ?_
  obtain ⟨q2, hq2, h⟩ := jv_lt_eq h
  have kq2 : jv_V E 24 [some (.ref 35)] [.int q2, .ref 35] σ := by
    obtain ⟨q4, hq4, h⟩ := jv_lt_eq h
    refine jv_callV (pc' := 27) (o := some (.int (jv_b q4.1))) (σ' := q4.2) hE dX8_pathEdges_24 rfl lV_X8_115 (ok_X8_holds hq4) rfl rfl rfl (by decide) rfl (Nat.le_of_ble_eq_true rfl) ?_
    show jv_V E 27 [some (.ref 35)] [.int (jv_b q4.1)] q4.2
    obtain ⟨q6, hq6, h⟩ := jv_lt_eq h
    have kq6 : jv_V E 38 [none] [.int q6] q4.2 := by
      cases h
      exact hret _ _ dX8_pathEdges_38
    refine jv_if_eq (x := (jv_b q4.1)) (tgt := 37) (pc' := 30) hE dX8_pathEdges_27 (by decide) rfl (fun c5 => ?_) (fun c5 => ?_)
    · have c5 := jv_b0 c5
      rw [if_neg c5] at hq6
      refine jv_iconst (v := (0 : Int32)) (pc' := 38) hE dX8_pathEdges_37 rfl (by decide) ?_
      cases hq6
      exact jv_forget [false] kq6
    · have c5 := jv_b1 c5
      rw [if_pos c5] at hq6
      refine jv_aload_n (x := 35) (pc' := 31) hE dX8_pathEdges_30 rfl 0 rfl rfl ?_
      refine jv_get (v := .int (q4.2.1 35 13)) (pc' := 34) hE dX8_pathEdges_31 rfl lF_X8_135 rfl rfl rfl ?_
      refine jv_goto (tgt := 38) hE dX8_pathEdges_34 (by decide) ?_
      cases hq6
      exact jv_forget [false] kq6
  refine jv_if_ne (x := (σ.1 35 9)) (tgt := 12) (pc' := 8) hE dX8_pathEdges_5 (by decide) rfl (fun c1 => ?_) (fun c1 => ?_)
  · rw [if_neg c1] at hq2
    refine jv_aload_n (x := 35) (pc' := 13) hE dX8_pathEdges_12 rfl 0 rfl rfl ?_
    refine jv_get (v := .int (σ.1 35 12)) (pc' := 16) hE dX8_pathEdges_13 rfl lF_X8_138 rfl rfl rfl ?_
    refine jv_if_ne (x := (σ.1 35 12)) (tgt := 23) (pc' := 19) hE dX8_pathEdges_16 (by decide) rfl (fun c3 => ?_) (fun c3 => ?_)
    · rw [if_neg c3] at hq2
      refine jv_iconst (v := (0 : Int32)) (pc' := 24) hE dX8_pathEdges_23 rfl (by decide) ?_
      cases hq2
      exact jv_forget [true] kq2
    · rw [if_pos c3] at hq2
      refine jv_iconst (v := (2 : Int32)) (pc' := 20) hE dX8_pathEdges_19 rfl (by decide) ?_
      refine jv_goto (tgt := 24) hE dX8_pathEdges_20 (by decide) ?_
      cases hq2
      exact jv_forget [true] kq2
  · rw [if_pos c1] at hq2
    refine jv_iconst (v := (1 : Int32)) (pc' := 9) hE dX8_pathEdges_8 rfl (by decide) ?_
    refine jv_goto (tgt := 24) hE dX8_pathEdges_9 (by decide) ?_
    cases hq2
    exact jv_forget [true] kq2
noncomputable def f_X8_pathEdge (σ : jv_S) (p1 : Int32) : Option (Int32 × jv_S) := jv_lt (if (σ.1 35 9) = 0 then ((1 : Int32)) else (if (f_X8_in σ p1 (0 : Int32) ((σ.1 35 13) - (1 : Int32))) = true then ((0 : Int32)) else ((2 : Int32)))) (fun q2 => jv_lt (f_X8_holds σ q2) (fun q4 => jv_bd (if q4.1 = true then (if jv_ck p1 10 = true then (some (q4.2.1 42 p1.toNatClampNeg)) else none) else (some (0 : Int32))) (fun q6 => some (q6, q4.2))))
set_option maxRecDepth 100000 in
set_option maxHeartbeats 4000000 in
theorem ok_X8_pathEdge {G : jv_G} {l : Launch} {σ : jv_S} {p1 : Int32} {r : Int32 × jv_S} (h : f_X8_pathEdge σ p1 = some r) : jv_Cn G l 2 M_X8_pathEdge [.ref 35, .int p1] σ (some (.int r.1)) r.2 := by
  refine jv_of (L0 := [some (.ref 35), some (.int p1)]) (by decide +kernel) (Nat.le_of_ble_eq_true rfl) rfl (jv_okI _) (fun E e1 e2 hE hret => ?_)
  unfold f_X8_pathEdge at h
  refine jv_aload_n (x := 35) (pc' := 1) hE dX8_pathEdge_0 rfl 0 rfl rfl ?_
  refine jv_aload_n (x := 35) (pc' := 2) hE dX8_pathEdge_1 rfl 0 rfl rfl ?_
  refine jv_get (v := .int (σ.1 35 9)) (pc' := 5) hE dX8_pathEdge_2 rfl lF_X8_108 rfl rfl rfl ?_
  obtain ⟨q2, hq2, h⟩ := jv_lt_eq h
  have kq2 : jv_V E 31 [some (.ref 35), some (.int p1)] [.int q2, .ref 35] σ := by
    obtain ⟨q4, hq4, h⟩ := jv_lt_eq h
    refine jv_callV (pc' := 34) (o := some (.int (jv_b q4.1))) (σ' := q4.2) hE dX8_pathEdge_31 rfl lV_X8_115 (ok_X8_holds hq4) rfl rfl rfl (by decide) rfl (Nat.le_of_ble_eq_true rfl) ?_
    show jv_V E 34 [some (.ref 35), some (.int p1)] [.int (jv_b q4.1)] q4.2
    obtain ⟨q6, hq6, h⟩ := jv_bd_some h
    have kq6 : jv_V E 47 [none, none] [.int q6] q4.2 := by
      cases h
      exact hret _ _ dX8_pathEdge_47
    refine jv_if_eq (x := (jv_b q4.1)) (tgt := 46) (pc' := 37) hE dX8_pathEdge_34 (by decide) rfl (fun c5 => ?_) (fun c5 => ?_)
    · have c5 := jv_b0 c5
      rw [if_neg c5] at hq6
      refine jv_iconst (v := (0 : Int32)) (pc' := 47) hE dX8_pathEdge_46 rfl (by decide) ?_
      cases hq6
      exact jv_forget [false, false] kq6
    · have c5 := jv_b1 c5
      rw [if_pos c5] at hq6
      refine jv_aload_n (x := 35) (pc' := 38) hE dX8_pathEdge_37 rfl 0 rfl rfl ?_
      refine jv_get (v := .ref 42) (pc' := 41) hE dX8_pathEdge_38 rfl lF_X8_33 rfl rfl rfl ?_
      refine jv_iload_n (x := p1) (pc' := 42) hE dX8_pathEdge_41 rfl 1 rfl rfl ?_
      by_cases c7 : jv_ck p1 10 = true
      · rw [if_pos c7] at hq6
        refine jv_iald (pc' := 43) hE dX8_pathEdge_42 rfl rfl (jv_ck_in c7) ?_
        show jv_V E 43 [some (.ref 35), some (.int p1)] [.int (q4.2.1 42 p1.toNatClampNeg)] q4.2
        refine jv_goto (tgt := 47) hE dX8_pathEdge_43 (by decide) ?_
        cases hq6
        exact jv_forget [false, false] kq6
      · rw [if_neg c7] at hq6; cases hq6
  refine jv_if_ne (x := (σ.1 35 9)) (tgt := 12) (pc' := 8) hE dX8_pathEdge_5 (by decide) rfl (fun c1 => ?_) (fun c1 => ?_)
  · rw [if_neg c1] at hq2
    refine jv_iload_n (x := p1) (pc' := 13) hE dX8_pathEdge_12 rfl 1 rfl rfl ?_
    refine jv_iconst (v := (0 : Int32)) (pc' := 14) hE dX8_pathEdge_13 rfl (by decide) ?_
    refine jv_aload_n (x := 35) (pc' := 15) hE dX8_pathEdge_14 rfl 0 rfl rfl ?_
    refine jv_get (v := .int (σ.1 35 13)) (pc' := 18) hE dX8_pathEdge_15 rfl lF_X8_135 rfl rfl rfl ?_
    refine jv_iconst (v := (1 : Int32)) (pc' := 19) hE dX8_pathEdge_18 rfl (by decide) ?_
    refine jv_isub (x := (σ.1 35 13)) (y := (1 : Int32)) (pc' := 20) hE dX8_pathEdge_19 rfl ?_
    refine jv_callS (pc' := 23) (o := some (.int (jv_b (f_X8_in σ p1 (0 : Int32) ((σ.1 35 13) - (1 : Int32)))))) (σ' := σ) hE dX8_pathEdge_20 rfl lS_X8_93 (ok_X8_in rfl) rfl (by decide) rfl (Nat.le_of_ble_eq_true rfl) ?_
    show jv_V E 23 [some (.ref 35), some (.int p1)] [.int (jv_b (f_X8_in σ p1 (0 : Int32) ((σ.1 35 13) - (1 : Int32)))), .ref 35] σ
    refine jv_if_eq (x := (jv_b (f_X8_in σ p1 (0 : Int32) ((σ.1 35 13) - (1 : Int32))))) (tgt := 30) (pc' := 26) hE dX8_pathEdge_23 (by decide) rfl (fun c3 => ?_) (fun c3 => ?_)
    · have c3 := jv_b0 c3
      rw [if_neg c3] at hq2
      refine jv_iconst (v := (2 : Int32)) (pc' := 31) hE dX8_pathEdge_30 rfl (by decide) ?_
      cases hq2
      exact jv_forget [true, true] kq2
    · have c3 := jv_b1 c3
      rw [if_pos c3] at hq2
      refine jv_iconst (v := (0 : Int32)) (pc' := 27) hE dX8_pathEdge_26 rfl (by decide) ?_
      refine jv_goto (tgt := 31) hE dX8_pathEdge_27 (by decide) ?_
      cases hq2
      exact jv_forget [true, true] kq2
  · rw [if_pos c1] at hq2
    refine jv_iconst (v := (1 : Int32)) (pc' := 9) hE dX8_pathEdge_8 rfl (by decide) ?_
    refine jv_goto (tgt := 31) hE dX8_pathEdge_9 (by decide) ?_
    cases hq2
    exact jv_forget [true, true] kq2
noncomputable def f_X8_countPaths (σ : jv_S) (p1 : Int32) (p2 : Int32) (p3 : Int32) : Option (Int32 × jv_S) := jv_lt (if (f_X8_areTwo σ p1 p2) = true then (if (f_X8_in σ p3 (0 : Int32) (100000 : Int32)) = true then (false) else (true)) else (true)) (fun q2 => jv_lt (f_X8_holds σ (jv_b q2)) (fun q4 => jv_bd (if q4.1 = true then (jv_bd (f_X8_goesAlong q4.2 p1 p2 p3 (0 : Int32)) (fun q7 => some (q7.1, q7.2))) else (some ((0 : Int32), q4.2))) (fun q6 => some (q6.1, q6.2))))
set_option maxRecDepth 100000 in
set_option maxHeartbeats 4000000 in
theorem ok_X8_countPaths {G : jv_G} {l : Launch} {σ : jv_S} {p1 : Int32} {p2 : Int32} {p3 : Int32} {r : Int32 × jv_S} (h : f_X8_countPaths σ p1 p2 p3 = some r) : jv_Cn G l 5 M_X8_countPaths [.ref 35, .int p1, .int p2, .int p3] σ (some (.int r.1)) r.2 := by
  refine jv_of (L0 := [some (.ref 35), some (.int p1), some (.int p2), some (.int p3)]) (by decide +kernel) (Nat.le_of_ble_eq_true rfl) rfl (jv_okI _) (fun E e1 e2 hE hret => ?_)
  unfold f_X8_countPaths at h
  refine jv_aload_n (x := 35) (pc' := 1) hE dX8_countPaths_0 rfl 0 rfl rfl ?_
  refine jv_aload_n (x := 35) (pc' := 2) hE dX8_countPaths_1 rfl 0 rfl rfl ?_
  refine jv_iload_n (x := p1) (pc' := 3) hE dX8_countPaths_2 rfl 1 rfl rfl ?_
  refine jv_iload_n (x := p2) (pc' := 4) hE dX8_countPaths_3 rfl 2 rfl rfl ?_
  refine jv_callV (pc' := 7) (o := some (.int (jv_b (f_X8_areTwo σ p1 p2)))) (σ' := σ) hE dX8_countPaths_4 rfl lV_X8_121 (ok_X8_areTwo rfl) rfl rfl rfl (by decide) rfl (Nat.le_of_ble_eq_true rfl) ?_
  show jv_V E 7 [some (.ref 35), some (.int p1), some (.int p2), some (.int p3)] [.int (jv_b (f_X8_areTwo σ p1 p2)), .ref 35] σ
  obtain ⟨q2, hq2, h⟩ := jv_lt_eq h
  have kq2 : jv_V E 25 [some (.ref 35), some (.int p1), some (.int p2), some (.int p3)] [.int (jv_b q2), .ref 35] σ := by
    obtain ⟨q4, hq4, h⟩ := jv_lt_eq h
    refine jv_callV (pc' := 28) (o := some (.int (jv_b q4.1))) (σ' := q4.2) hE dX8_countPaths_25 rfl lV_X8_115 (ok_X8_holds hq4) rfl rfl rfl (by decide) rfl (Nat.le_of_ble_eq_true rfl) ?_
    show jv_V E 28 [some (.ref 35), some (.int p1), some (.int p2), some (.int p3)] [.int (jv_b q4.1)] q4.2
    obtain ⟨q6, hq6, h⟩ := jv_bd_some h
    have kq6 : jv_V E 43 [none, none, none, none] [.int q6.1] q6.2 := by
      cases h
      exact hret _ _ dX8_countPaths_43
    refine jv_if_eq (x := (jv_b q4.1)) (tgt := 42) (pc' := 31) hE dX8_countPaths_28 (by decide) rfl (fun c5 => ?_) (fun c5 => ?_)
    · have c5 := jv_b0 c5
      rw [if_neg c5] at hq6
      refine jv_iconst (v := (0 : Int32)) (pc' := 43) hE dX8_countPaths_42 rfl (by decide) ?_
      cases hq6
      exact jv_forget [false, false, false, false] kq6
    · have c5 := jv_b1 c5
      rw [if_pos c5] at hq6
      refine jv_aload_n (x := 35) (pc' := 32) hE dX8_countPaths_31 rfl 0 rfl rfl ?_
      refine jv_iload_n (x := p1) (pc' := 33) hE dX8_countPaths_32 rfl 1 rfl rfl ?_
      refine jv_iload_n (x := p2) (pc' := 34) hE dX8_countPaths_33 rfl 2 rfl rfl ?_
      refine jv_iload_n (x := p3) (pc' := 35) hE dX8_countPaths_34 rfl 3 rfl rfl ?_
      refine jv_iconst (v := (0 : Int32)) (pc' := 36) hE dX8_countPaths_35 rfl (by decide) ?_
      obtain ⟨q7, hq7, hq6⟩ := jv_bd_some hq6
      refine jv_callV (pc' := 39) (o := some (.int q7.1)) (σ' := q7.2) hE dX8_countPaths_36 rfl lV_X8_166 (ok_X8_goesAlong hq7) rfl rfl rfl (by decide) rfl (Nat.le_of_ble_eq_true rfl) ?_
      show jv_V E 39 [some (.ref 35), some (.int p1), some (.int p2), some (.int p3)] [.int q7.1] q7.2
      refine jv_goto (tgt := 43) hE dX8_countPaths_39 (by decide) ?_
      cases hq6
      exact jv_forget [false, false, false, false] kq6
  refine jv_if_eq (x := (jv_b (f_X8_areTwo σ p1 p2))) (tgt := 24) (pc' := 10) hE dX8_countPaths_7 (by decide) rfl (fun c1 => ?_) (fun c1 => ?_)
  · have c1 := jv_b0 c1
    rw [if_neg c1] at hq2
    refine jv_iconst (v := (1 : Int32)) (pc' := 25) hE dX8_countPaths_24 rfl (by decide) ?_
    cases hq2
    exact jv_forget [true, true, true, true] kq2
  · have c1 := jv_b1 c1
    rw [if_pos c1] at hq2
    refine jv_iload_n (x := p3) (pc' := 11) hE dX8_countPaths_10 rfl 3 rfl rfl ?_
    refine jv_iconst (v := (0 : Int32)) (pc' := 12) hE dX8_countPaths_11 rfl (by decide) ?_
    refine jv_ldc (v := (100000 : Int32)) (pc' := 14) hE dX8_countPaths_12 rfl lC_X8_170 ?_
    refine jv_callS (pc' := 17) (o := some (.int (jv_b (f_X8_in σ p3 (0 : Int32) (100000 : Int32))))) (σ' := σ) hE dX8_countPaths_14 rfl lS_X8_93 (ok_X8_in rfl) rfl (by decide) rfl (Nat.le_of_ble_eq_true rfl) ?_
    show jv_V E 17 [some (.ref 35), some (.int p1), some (.int p2), some (.int p3)] [.int (jv_b (f_X8_in σ p3 (0 : Int32) (100000 : Int32))), .ref 35] σ
    refine jv_if_eq (x := (jv_b (f_X8_in σ p3 (0 : Int32) (100000 : Int32)))) (tgt := 24) (pc' := 20) hE dX8_countPaths_17 (by decide) rfl (fun c3 => ?_) (fun c3 => ?_)
    · have c3 := jv_b0 c3
      rw [if_neg c3] at hq2
      refine jv_iconst (v := (1 : Int32)) (pc' := 25) hE dX8_countPaths_24 rfl (by decide) ?_
      cases hq2
      exact jv_forget [true, true, true, true] kq2
    · have c3 := jv_b1 c3
      rw [if_pos c3] at hq2
      refine jv_iconst (v := (0 : Int32)) (pc' := 21) hE dX8_countPaths_20 rfl (by decide) ?_
      refine jv_goto (tgt := 25) hE dX8_countPaths_21 (by decide) ?_
      cases hq2
      exact jv_forget [true, true, true, true] kq2
noncomputable def f_X8_waitsAt (σ : jv_S) (p1 : Int32) (p2 : Int32) : Option (jv_S) := if jv_ck (σ.1 35 33) 1202 = true then (if jv_ck (σ.1 35 33) 1202 = true then (some (jv_si (jv_si (jv_si σ 52 (σ.1 35 33).toNatClampNeg p1) 51 (σ.1 35 33).toNatClampNeg p2) 35 33 ((σ.1 35 33) + (1 : Int32)))) else none) else none
set_option maxRecDepth 100000 in
set_option maxHeartbeats 4000000 in
theorem ok_X8_waitsAt {G : jv_G} {l : Launch} {σ : jv_S} {p1 : Int32} {p2 : Int32} {r : jv_S} (h : f_X8_waitsAt σ p1 p2 = some r) : jv_Cn G l 1 M_X8_waitsAt [.ref 35, .int p1, .int p2] σ (none) r := by
  refine jv_of (L0 := [some (.ref 35), some (.int p1), some (.int p2)]) (by decide +kernel) (Nat.le_of_ble_eq_true rfl) rfl jv_okV (fun E e1 e2 hE hret => ?_)
  unfold f_X8_waitsAt at h
  refine jv_aload_n (x := 35) (pc' := 1) hE dX8_waitsAt_0 rfl 0 rfl rfl ?_
  refine jv_get (v := .ref 52) (pc' := 4) hE dX8_waitsAt_1 rfl lF_X8_63 rfl rfl rfl ?_
  refine jv_aload_n (x := 35) (pc' := 5) hE dX8_waitsAt_4 rfl 0 rfl rfl ?_
  refine jv_get (v := .int (σ.1 35 33)) (pc' := 8) hE dX8_waitsAt_5 rfl lF_X8_171 rfl rfl rfl ?_
  refine jv_iload_n (x := p1) (pc' := 9) hE dX8_waitsAt_8 rfl 1 rfl rfl ?_
  by_cases c1 : jv_ck (σ.1 35 33) 1202 = true
  · rw [if_pos c1] at h
    refine jv_iast (pc' := 10) hE dX8_waitsAt_9 rfl rfl (jv_ck_in c1) ?_
    refine jv_aload_n (x := 35) (pc' := 11) hE dX8_waitsAt_10 rfl 0 rfl rfl ?_
    refine jv_get (v := .ref 51) (pc' := 14) hE dX8_waitsAt_11 rfl lF_X8_60 rfl rfl rfl ?_
    refine jv_aload_n (x := 35) (pc' := 15) hE dX8_waitsAt_14 rfl 0 rfl rfl ?_
    refine jv_get (v := .int (σ.1 35 33)) (pc' := 18) hE dX8_waitsAt_15 rfl lF_X8_171 rfl rfl rfl ?_
    refine jv_iload_n (x := p2) (pc' := 19) hE dX8_waitsAt_18 rfl 2 rfl rfl ?_
    by_cases c2 : jv_ck (σ.1 35 33) 1202 = true
    · rw [if_pos c2] at h
      refine jv_iast (pc' := 20) hE dX8_waitsAt_19 rfl rfl (jv_ck_in c2) ?_
      refine jv_aload_n (x := 35) (pc' := 21) hE dX8_waitsAt_20 rfl 0 rfl rfl ?_
      refine jv_dup (pc' := 22) hE dX8_waitsAt_21 rfl rfl ?_
      refine jv_get (v := .int (σ.1 35 33)) (pc' := 25) hE dX8_waitsAt_22 rfl lF_X8_171 rfl rfl rfl ?_
      refine jv_iconst (v := (1 : Int32)) (pc' := 26) hE dX8_waitsAt_25 rfl (by decide) ?_
      refine jv_iadd (x := (σ.1 35 33)) (y := (1 : Int32)) (pc' := 27) hE dX8_waitsAt_26 rfl ?_
      refine jv_puti (x := ((σ.1 35 33) + (1 : Int32))) (pc' := 30) hE dX8_waitsAt_27 rfl lP_X8_171 rfl rfl rfl rfl ?_
      cases h
      exact hret _ _ dX8_waitsAt_30
    · rw [if_neg c2] at h; cases h
  · rw [if_neg c1] at h; cases h
noncomputable def f_X8_laysFirsts_lp2 (a1 : Int32) : Nat → Int32 → jv_S → Option (Int32 × jv_S)
  | 0, _, _ => none
  | n + 1, v2, σ => if (10 : Int32) ≤ v2 then (some (v2, σ)) else (if jv_ck v2 10 = true then (f_X8_laysFirsts_lp2 a1 n (v2 + (1 : Int32)) (jv_si σ 50 v2.toNatClampNeg (0 : Int32))) else none)
noncomputable def f_X8_laysFirsts_lp43 : Nat → Int32 → Int32 → jv_S → Option (Int32 × Int32)
  | 0, _, _, _ => none
  | n + 1, v2, v3, σ => if (σ.1 35 33) ≤ v3 then (some (v2, v3)) else (if jv_ck v3 1202 = true then (if jv_ck v2 1202 = true then (jv_lt (if (σ.1 51 v2.toNatClampNeg) ≤ (σ.1 51 v3.toNatClampNeg) then (v2) else (v3)) (fun q10 => f_X8_laysFirsts_lp43 n q10 (v3 + (1 : Int32)) σ)) else none) else none)
noncomputable def f_X8_laysFirsts_lp175 (a3 : Int32) (a4 : Int32) : Nat → Int32 → jv_S → Option (Int32 × jv_S)
  | 0, _, _ => none
  | n + 1, v5, σ => if (σ.1 35 2) ≤ v5 then (some (v5, σ)) else (jv_bd (f_X8_isUsable σ v5) (fun q25 => jv_bd (if q25 = true then (if jv_ck v5 24 = true then (if (σ.1 37 v5.toNatClampNeg) = a3 then (if jv_ck v5 24 = true then (if jv_ck v5 24 = true then (jv_bd (f_X8_waitsAt σ (σ.1 36 v5.toNatClampNeg) (a4 + (σ.1 38 v5.toNatClampNeg))) (fun q32 => some q32)) else none) else none) else (some σ)) else none) else (some σ)) (fun q27 => f_X8_laysFirsts_lp175 a3 a4 n (v5 + (1 : Int32)) q27)))
noncomputable def f_X8_laysFirsts_lp32 : Nat → jv_S → Option (jv_S)
  | 0, _ => none
  | n + 1, σ => if (σ.1 35 33) ≤ 0 then (some σ) else (jv_bd (f_X8_laysFirsts_lp43 jv_fuel (0 : Int32) (1 : Int32) σ) (fun q6 => if jv_ck q6.1 1202 = true then (if jv_ck q6.1 1202 = true then (if jv_ck ((σ.1 35 33) - (1 : Int32)) 1202 = true then (if jv_ck q6.1 1202 = true then (if jv_ck ((σ.1 35 33) - (1 : Int32)) 1202 = true then (if jv_ck q6.1 1202 = true then (if jv_ck (σ.1 52 q6.1.toNatClampNeg) 10 = true then (jv_bd (if (50 : Int32) ≤ (σ.1 50 (σ.1 52 q6.1.toNatClampNeg).toNatClampNeg) then (some (jv_si (jv_si (jv_si σ 35 33 ((σ.1 35 33) - (1 : Int32))) 52 q6.1.toNatClampNeg (σ.1 52 ((σ.1 35 33) - (1 : Int32)).toNatClampNeg)) 51 q6.1.toNatClampNeg (σ.1 51 ((σ.1 35 33) - (1 : Int32)).toNatClampNeg))) else (if jv_ck (σ.1 52 q6.1.toNatClampNeg) 10 = true then (if jv_ck (((50 : Int32) * (σ.1 52 q6.1.toNatClampNeg)) + (σ.1 50 (σ.1 52 q6.1.toNatClampNeg).toNatClampNeg)) 500 = true then (if jv_ck (σ.1 52 q6.1.toNatClampNeg) 10 = true then (if jv_ck (σ.1 52 q6.1.toNatClampNeg) 10 = true then (jv_bd (f_X8_laysFirsts_lp175 (σ.1 52 q6.1.toNatClampNeg) (σ.1 51 q6.1.toNatClampNeg) jv_fuel (0 : Int32) (jv_si (jv_si (jv_si (jv_si (jv_si σ 35 33 ((σ.1 35 33) - (1 : Int32))) 52 q6.1.toNatClampNeg (σ.1 52 ((σ.1 35 33) - (1 : Int32)).toNatClampNeg)) 51 q6.1.toNatClampNeg (σ.1 51 ((σ.1 35 33) - (1 : Int32)).toNatClampNeg)) 49 (((50 : Int32) * (σ.1 52 q6.1.toNatClampNeg)) + (σ.1 50 (σ.1 52 q6.1.toNatClampNeg).toNatClampNeg)).toNatClampNeg (σ.1 51 q6.1.toNatClampNeg)) 50 (σ.1 52 q6.1.toNatClampNeg).toNatClampNeg ((σ.1 50 (σ.1 52 q6.1.toNatClampNeg).toNatClampNeg) + (1 : Int32)))) (fun q20 => some q20.2)) else none) else none) else none) else none)) (fun q15 => f_X8_laysFirsts_lp32 n q15)) else none) else none) else none) else none) else none) else none) else none))
noncomputable def f_X8_laysFirsts (σ : jv_S) (p1 : Int32) : Option (jv_S) := jv_bd (f_X8_laysFirsts_lp2 p1 jv_fuel (0 : Int32) σ) (fun q3 => jv_bd (f_X8_waitsAt (jv_si q3.2 35 33 (0 : Int32)) p1 (0 : Int32)) (fun q4 => jv_bd (f_X8_laysFirsts_lp32 jv_fuel q4) (fun q21 => some q21)))
set_option maxRecDepth 100000 in
set_option maxHeartbeats 4000000 in
theorem lp_X8_laysFirsts_2 {a1 : Int32} {E : jv_E} (hE : jv_Cx E RX8 cX8_laysFirsts 6 2) : ∀ (n : Nat) (v2 : Int32) (σ : jv_S) (q : Int32 × jv_S), f_X8_laysFirsts_lp2 a1 n v2 σ = some q → (jv_V E 21 [some (.ref 35), some (.int a1), none, none, none, none] [] q.2) → jv_V E 2 [some (.ref 35), some (.int a1), some (.int v2), none, none, none] [] σ := by
  intro n
  induction n with
  | zero =>
    intro v2 σ q h
    rw [f_X8_laysFirsts_lp2] at h
    cases h
  | succ n ih =>
    intro v2 σ q h hk
    rw [f_X8_laysFirsts_lp2] at h
    refine jv_iload_n (x := v2) (pc' := 3) hE dX8_laysFirsts_2 rfl 2 rfl rfl ?_
    refine jv_bipush (v := (10 : Int32)) (pc' := 5) hE dX8_laysFirsts_3 rfl (by decide) ?_
    refine jv_icmp_ge (x := v2) (y := (10 : Int32)) (tgt := 21) (pc' := 8) hE dX8_laysFirsts_5 (by decide) rfl (fun c1 => ?_) (fun c1 => ?_)
    · rw [if_pos c1] at h
      cases h
      exact jv_forget [true, true, false, true, true, true] hk
    · rw [if_neg c1] at h
      refine jv_aload_n (x := 35) (pc' := 9) hE dX8_laysFirsts_8 rfl 0 rfl rfl ?_
      refine jv_get (v := .ref 50) (pc' := 12) hE dX8_laysFirsts_9 rfl lF_X8_57 rfl rfl rfl ?_
      refine jv_iload_n (x := v2) (pc' := 13) hE dX8_laysFirsts_12 rfl 2 rfl rfl ?_
      refine jv_iconst (v := (0 : Int32)) (pc' := 14) hE dX8_laysFirsts_13 rfl (by decide) ?_
      by_cases c2 : jv_ck v2 10 = true
      · rw [if_pos c2] at h
        refine jv_iast (pc' := 15) hE dX8_laysFirsts_14 rfl rfl (jv_ck_in c2) ?_
        refine jv_iinc (x := v2) (v := (v2 + (1 : Int32))) (L' := [some (.ref 35), some (.int a1), some (.int (v2 + (1 : Int32))), none, none, none]) (pc' := 18) hE dX8_laysFirsts_15 rfl rfl rfl (by decide) rfl rfl ?_
        refine jv_goto (tgt := 2) hE dX8_laysFirsts_18 (by decide) ?_
        exact jv_forget [true, true, true, true, true, true] (ih (v2 + (1 : Int32)) (jv_si σ 50 v2.toNatClampNeg (0 : Int32)) _ h hk)
      · rw [if_neg c2] at h; cases h
set_option maxRecDepth 100000 in
set_option maxHeartbeats 4000000 in
theorem lp_X8_laysFirsts_43 {σ : jv_S} {E : jv_E} (hE : jv_Cx E RX8 cX8_laysFirsts 6 2) : ∀ (n : Nat) (v2 : Int32) (v3 : Int32)  (q : Int32 × Int32), f_X8_laysFirsts_lp43 n v2 v3 σ = some q → (jv_V E 78 [some (.ref 35), none, some (.int q.1), none, none, none] [] σ) → jv_V E 43 [some (.ref 35), none, some (.int v2), some (.int v3), none, none] [] σ := by
  intro n
  induction n with
  | zero =>
    intro v2 v3 q h
    rw [f_X8_laysFirsts_lp43] at h
    cases h
  | succ n ih =>
    intro v2 v3 q h hk
    rw [f_X8_laysFirsts_lp43] at h
    refine jv_iload_n (x := v3) (pc' := 44) hE dX8_laysFirsts_43 rfl 3 rfl rfl ?_
    refine jv_aload_n (x := 35) (pc' := 45) hE dX8_laysFirsts_44 rfl 0 rfl rfl ?_
    refine jv_get (v := .int (σ.1 35 33)) (pc' := 48) hE dX8_laysFirsts_45 rfl lF_X8_171 rfl rfl rfl ?_
    refine jv_icmp_ge (x := v3) (y := (σ.1 35 33)) (tgt := 78) (pc' := 51) hE dX8_laysFirsts_48 (by decide) rfl (fun c6 => ?_) (fun c6 => ?_)
    · rw [if_pos c6] at h
      cases h
      exact jv_forget [true, true, true, false, true, true] hk
    · rw [if_neg c6] at h
      refine jv_aload_n (x := 35) (pc' := 52) hE dX8_laysFirsts_51 rfl 0 rfl rfl ?_
      refine jv_get (v := .ref 51) (pc' := 55) hE dX8_laysFirsts_52 rfl lF_X8_60 rfl rfl rfl ?_
      refine jv_iload_n (x := v3) (pc' := 56) hE dX8_laysFirsts_55 rfl 3 rfl rfl ?_
      by_cases c7 : jv_ck v3 1202 = true
      · rw [if_pos c7] at h
        refine jv_iald (pc' := 57) hE dX8_laysFirsts_56 rfl rfl (jv_ck_in c7) ?_
        show jv_V E 57 [some (.ref 35), none, some (.int v2), some (.int v3), none, none] [.int (σ.1 51 v3.toNatClampNeg)] σ
        refine jv_aload_n (x := 35) (pc' := 58) hE dX8_laysFirsts_57 rfl 0 rfl rfl ?_
        refine jv_get (v := .ref 51) (pc' := 61) hE dX8_laysFirsts_58 rfl lF_X8_60 rfl rfl rfl ?_
        refine jv_iload_n (x := v2) (pc' := 62) hE dX8_laysFirsts_61 rfl 2 rfl rfl ?_
        by_cases c8 : jv_ck v2 1202 = true
        · rw [if_pos c8] at h
          refine jv_iald (pc' := 63) hE dX8_laysFirsts_62 rfl rfl (jv_ck_in c8) ?_
          show jv_V E 63 [some (.ref 35), none, some (.int v2), some (.int v3), none, none] [.int (σ.1 51 v2.toNatClampNeg), .int (σ.1 51 v3.toNatClampNeg)] σ
          obtain ⟨q10, hq10, h⟩ := jv_lt_eq h
          have kq10 : jv_V E 71 [some (.ref 35), none, none, some (.int v3), none, none] [.int q10] σ := by
            refine jv_istore_n (x := q10) (L' := [some (.ref 35), none, some (.int q10), some (.int v3), none, none]) (pc' := 72) hE dX8_laysFirsts_71 rfl 2 rfl (by decide) rfl rfl ?_
            refine jv_iinc (x := v3) (v := (v3 + (1 : Int32))) (L' := [some (.ref 35), none, some (.int q10), some (.int (v3 + (1 : Int32))), none, none]) (pc' := 75) hE dX8_laysFirsts_72 rfl rfl rfl (by decide) rfl rfl ?_
            refine jv_goto (tgt := 43) hE dX8_laysFirsts_75 (by decide) ?_
            exact jv_forget [true, true, true, true, true, true] (ih q10 (v3 + (1 : Int32)) _ h hk)
          refine jv_icmp_ge (x := (σ.1 51 v3.toNatClampNeg)) (y := (σ.1 51 v2.toNatClampNeg)) (tgt := 70) (pc' := 66) hE dX8_laysFirsts_63 (by decide) rfl (fun c9 => ?_) (fun c9 => ?_)
          · rw [if_pos c9] at hq10
            refine jv_iload_n (x := v2) (pc' := 71) hE dX8_laysFirsts_70 rfl 2 rfl rfl ?_
            cases hq10
            exact jv_forget [true, true, false, true, true, true] kq10
          · rw [if_neg c9] at hq10
            refine jv_iload_n (x := v3) (pc' := 67) hE dX8_laysFirsts_66 rfl 3 rfl rfl ?_
            refine jv_goto (tgt := 71) hE dX8_laysFirsts_67 (by decide) ?_
            cases hq10
            exact jv_forget [true, true, false, true, true, true] kq10
        · rw [if_neg c8] at h; cases h
      · rw [if_neg c7] at h; cases h
set_option maxRecDepth 100000 in
set_option maxHeartbeats 4000000 in
theorem lp_X8_laysFirsts_175 {a3 : Int32} {a4 : Int32} {E : jv_E} (hE : jv_Cx E RX8 cX8_laysFirsts 6 2) : ∀ (n : Nat) (v5 : Int32) (σ : jv_S) (q : Int32 × jv_S), f_X8_laysFirsts_lp175 a3 a4 n v5 σ = some q → (jv_V E 231 [some (.ref 35), none, none, none, none, none] [] q.2) → jv_V E 175 [some (.ref 35), none, none, some (.int a3), some (.int a4), some (.int v5)] [] σ := by
  intro n
  induction n with
  | zero =>
    intro v5 σ q h
    rw [f_X8_laysFirsts_lp175] at h
    cases h
  | succ n ih =>
    intro v5 σ q h hk
    rw [f_X8_laysFirsts_lp175] at h
    refine jv_iload (x := v5) (pc' := 177) hE dX8_laysFirsts_175 rfl rfl ?_
    refine jv_aload_n (x := 35) (pc' := 178) hE dX8_laysFirsts_177 rfl 0 rfl rfl ?_
    refine jv_get (v := .int (σ.1 35 2)) (pc' := 181) hE dX8_laysFirsts_178 rfl lF_X8_105 rfl rfl rfl ?_
    refine jv_icmp_ge (x := v5) (y := (σ.1 35 2)) (tgt := 231) (pc' := 184) hE dX8_laysFirsts_181 (by decide) rfl (fun c24 => ?_) (fun c24 => ?_)
    · rw [if_pos c24] at h
      cases h
      exact jv_forget [true, true, true, false, false, false] hk
    · rw [if_neg c24] at h
      refine jv_aload_n (x := 35) (pc' := 185) hE dX8_laysFirsts_184 rfl 0 rfl rfl ?_
      refine jv_iload (x := v5) (pc' := 187) hE dX8_laysFirsts_185 rfl rfl ?_
      obtain ⟨q25, hq25, h⟩ := jv_bd_some h
      refine jv_callV (pc' := 190) (o := some (.int (jv_b q25))) (σ' := σ) hE dX8_laysFirsts_187 rfl lV_X8_127 (ok_X8_isUsable hq25) rfl rfl rfl (by decide) rfl (Nat.le_of_ble_eq_true rfl) ?_
      show jv_V E 190 [some (.ref 35), none, none, some (.int a3), some (.int a4), some (.int v5)] [.int (jv_b q25)] σ
      obtain ⟨q27, hq27, h⟩ := jv_bd_some h
      have kq27 : jv_V E 225 [some (.ref 35), none, none, some (.int a3), some (.int a4), some (.int v5)] [] q27 := by
        refine jv_iinc (x := v5) (v := (v5 + (1 : Int32))) (L' := [some (.ref 35), none, none, some (.int a3), some (.int a4), some (.int (v5 + (1 : Int32)))]) (pc' := 228) hE dX8_laysFirsts_225 rfl rfl rfl (by decide) rfl rfl ?_
        refine jv_goto (tgt := 175) hE dX8_laysFirsts_228 (by decide) ?_
        exact jv_forget [true, true, true, true, true, true] (ih (v5 + (1 : Int32)) q27 _ h hk)
      refine jv_if_eq (x := (jv_b q25)) (tgt := 225) (pc' := 193) hE dX8_laysFirsts_190 (by decide) rfl (fun c26 => ?_) (fun c26 => ?_)
      · have c26 := jv_b0 c26
        rw [if_neg c26] at hq27
        cases hq27
        exact jv_forget [true, true, true, true, true, true] kq27
      · have c26 := jv_b1 c26
        rw [if_pos c26] at hq27
        refine jv_aload_n (x := 35) (pc' := 194) hE dX8_laysFirsts_193 rfl 0 rfl rfl ?_
        refine jv_get (v := .ref 37) (pc' := 197) hE dX8_laysFirsts_194 rfl lF_X8_17 rfl rfl rfl ?_
        refine jv_iload (x := v5) (pc' := 199) hE dX8_laysFirsts_197 rfl rfl ?_
        by_cases c28 : jv_ck v5 24 = true
        · rw [if_pos c28] at hq27
          refine jv_iald (pc' := 200) hE dX8_laysFirsts_199 rfl rfl (jv_ck_in c28) ?_
          show jv_V E 200 [some (.ref 35), none, none, some (.int a3), some (.int a4), some (.int v5)] [.int (σ.1 37 v5.toNatClampNeg)] σ
          refine jv_iload_n (x := a3) (pc' := 201) hE dX8_laysFirsts_200 rfl 3 rfl rfl ?_
          refine jv_icmp_ne (x := (σ.1 37 v5.toNatClampNeg)) (y := a3) (tgt := 225) (pc' := 204) hE dX8_laysFirsts_201 (by decide) rfl (fun c29 => ?_) (fun c29 => ?_)
          · rw [if_neg c29] at hq27
            cases hq27
            exact jv_forget [true, true, true, true, true, true] kq27
          · rw [if_pos c29] at hq27
            refine jv_aload_n (x := 35) (pc' := 205) hE dX8_laysFirsts_204 rfl 0 rfl rfl ?_
            refine jv_aload_n (x := 35) (pc' := 206) hE dX8_laysFirsts_205 rfl 0 rfl rfl ?_
            refine jv_get (v := .ref 36) (pc' := 209) hE dX8_laysFirsts_206 rfl lF_X8_13 rfl rfl rfl ?_
            refine jv_iload (x := v5) (pc' := 211) hE dX8_laysFirsts_209 rfl rfl ?_
            by_cases c30 : jv_ck v5 24 = true
            · rw [if_pos c30] at hq27
              refine jv_iald (pc' := 212) hE dX8_laysFirsts_211 rfl rfl (jv_ck_in c30) ?_
              show jv_V E 212 [some (.ref 35), none, none, some (.int a3), some (.int a4), some (.int v5)] [.int (σ.1 36 v5.toNatClampNeg), .ref 35] σ
              refine jv_iload (x := a4) (pc' := 214) hE dX8_laysFirsts_212 rfl rfl ?_
              refine jv_aload_n (x := 35) (pc' := 215) hE dX8_laysFirsts_214 rfl 0 rfl rfl ?_
              refine jv_get (v := .ref 38) (pc' := 218) hE dX8_laysFirsts_215 rfl lF_X8_20 rfl rfl rfl ?_
              refine jv_iload (x := v5) (pc' := 220) hE dX8_laysFirsts_218 rfl rfl ?_
              by_cases c31 : jv_ck v5 24 = true
              · rw [if_pos c31] at hq27
                refine jv_iald (pc' := 221) hE dX8_laysFirsts_220 rfl rfl (jv_ck_in c31) ?_
                show jv_V E 221 [some (.ref 35), none, none, some (.int a3), some (.int a4), some (.int v5)] [.int (σ.1 38 v5.toNatClampNeg), .int a4, .int (σ.1 36 v5.toNatClampNeg), .ref 35] σ
                refine jv_iadd (x := a4) (y := (σ.1 38 v5.toNatClampNeg)) (pc' := 222) hE dX8_laysFirsts_221 rfl ?_
                obtain ⟨q32, hq32, hq27⟩ := jv_bd_some hq27
                refine jv_callV (pc' := 225) (o := none) (σ' := q32) hE dX8_laysFirsts_222 rfl lV_X8_174 (ok_X8_waitsAt hq32) rfl rfl rfl (by decide) rfl (Nat.le_of_ble_eq_true rfl) ?_
                show jv_V E 225 [some (.ref 35), none, none, some (.int a3), some (.int a4), some (.int v5)] [] q32
                cases hq27
                exact jv_forget [true, true, true, true, true, true] kq27
              · rw [if_neg c31] at hq27; cases hq27
            · rw [if_neg c30] at hq27; cases hq27
        · rw [if_neg c28] at hq27; cases hq27
set_option maxRecDepth 100000 in
set_option maxHeartbeats 4000000 in
theorem lp_X8_laysFirsts_32 {E : jv_E} (hE : jv_Cx E RX8 cX8_laysFirsts 6 2) : ∀ (n : Nat) (σ : jv_S) (q : jv_S), f_X8_laysFirsts_lp32 n σ = some q → (jv_V E 234 [none, none, none, none, none, none] [] q) → jv_V E 32 [some (.ref 35), none, none, none, none, none] [] σ := by
  intro n
  induction n with
  | zero =>
    intro σ q h
    rw [f_X8_laysFirsts_lp32] at h
    cases h
  | succ n ih =>
    intro σ q h hk
    rw [f_X8_laysFirsts_lp32] at h
    refine jv_aload_n (x := 35) (pc' := 33) hE dX8_laysFirsts_32 rfl 0 rfl rfl ?_
    refine jv_get (v := .int (σ.1 35 33)) (pc' := 36) hE dX8_laysFirsts_33 rfl lF_X8_171 rfl rfl rfl ?_
    refine jv_if_le (x := (σ.1 35 33)) (tgt := 234) (pc' := 39) hE dX8_laysFirsts_36 (by decide) rfl (fun c5 => ?_) (fun c5 => ?_)
    · rw [if_pos c5] at h
      cases h
      exact jv_forget [false, true, true, true, true, true] hk
    · rw [if_neg c5] at h
      refine jv_iconst (v := (0 : Int32)) (pc' := 40) hE dX8_laysFirsts_39 rfl (by decide) ?_
      refine jv_istore_n (x := (0 : Int32)) (L' := [some (.ref 35), none, some (.int (0 : Int32)), none, none, none]) (pc' := 41) hE dX8_laysFirsts_40 rfl 2 rfl (by decide) rfl rfl ?_
      refine jv_iconst (v := (1 : Int32)) (pc' := 42) hE dX8_laysFirsts_41 rfl (by decide) ?_
      refine jv_istore_n (x := (1 : Int32)) (L' := [some (.ref 35), none, some (.int (0 : Int32)), some (.int (1 : Int32)), none, none]) (pc' := 43) hE dX8_laysFirsts_42 rfl 3 rfl (by decide) rfl rfl ?_
      obtain ⟨q6, hq6, h⟩ := jv_bd_some h
      refine jv_forget [true, true, true, true, true, true] (lp_X8_laysFirsts_43 hE jv_fuel (0 : Int32) (1 : Int32) _ hq6 ?_)
      refine jv_aload_n (x := 35) (pc' := 79) hE dX8_laysFirsts_78 rfl 0 rfl rfl ?_
      refine jv_get (v := .ref 52) (pc' := 82) hE dX8_laysFirsts_79 rfl lF_X8_63 rfl rfl rfl ?_
      refine jv_iload_n (x := q6.1) (pc' := 83) hE dX8_laysFirsts_82 rfl 2 rfl rfl ?_
      by_cases c7 : jv_ck q6.1 1202 = true
      · rw [if_pos c7] at h
        refine jv_iald (pc' := 84) hE dX8_laysFirsts_83 rfl rfl (jv_ck_in c7) ?_
        show jv_V E 84 [some (.ref 35), none, some (.int q6.1), none, none, none] [.int (σ.1 52 q6.1.toNatClampNeg)] σ
        refine jv_istore_n (x := (σ.1 52 q6.1.toNatClampNeg)) (L' := [some (.ref 35), none, some (.int q6.1), some (.int (σ.1 52 q6.1.toNatClampNeg)), none, none]) (pc' := 85) hE dX8_laysFirsts_84 rfl 3 rfl (by decide) rfl rfl ?_
        refine jv_aload_n (x := 35) (pc' := 86) hE dX8_laysFirsts_85 rfl 0 rfl rfl ?_
        refine jv_get (v := .ref 51) (pc' := 89) hE dX8_laysFirsts_86 rfl lF_X8_60 rfl rfl rfl ?_
        refine jv_iload_n (x := q6.1) (pc' := 90) hE dX8_laysFirsts_89 rfl 2 rfl rfl ?_
        by_cases c8 : jv_ck q6.1 1202 = true
        · rw [if_pos c8] at h
          refine jv_iald (pc' := 91) hE dX8_laysFirsts_90 rfl rfl (jv_ck_in c8) ?_
          show jv_V E 91 [some (.ref 35), none, some (.int q6.1), some (.int (σ.1 52 q6.1.toNatClampNeg)), none, none] [.int (σ.1 51 q6.1.toNatClampNeg)] σ
          refine jv_istore (x := (σ.1 51 q6.1.toNatClampNeg)) (L' := [some (.ref 35), none, some (.int q6.1), some (.int (σ.1 52 q6.1.toNatClampNeg)), some (.int (σ.1 51 q6.1.toNatClampNeg)), none]) (pc' := 93) hE dX8_laysFirsts_91 rfl (by decide) rfl rfl ?_
          refine jv_aload_n (x := 35) (pc' := 94) hE dX8_laysFirsts_93 rfl 0 rfl rfl ?_
          refine jv_dup (pc' := 95) hE dX8_laysFirsts_94 rfl rfl ?_
          refine jv_get (v := .int (σ.1 35 33)) (pc' := 98) hE dX8_laysFirsts_95 rfl lF_X8_171 rfl rfl rfl ?_
          refine jv_iconst (v := (1 : Int32)) (pc' := 99) hE dX8_laysFirsts_98 rfl (by decide) ?_
          refine jv_isub (x := (σ.1 35 33)) (y := (1 : Int32)) (pc' := 100) hE dX8_laysFirsts_99 rfl ?_
          refine jv_puti (x := ((σ.1 35 33) - (1 : Int32))) (pc' := 103) hE dX8_laysFirsts_100 rfl lP_X8_171 rfl rfl rfl rfl ?_
          refine jv_aload_n (x := 35) (pc' := 104) hE dX8_laysFirsts_103 rfl 0 rfl rfl ?_
          refine jv_get (v := .ref 52) (pc' := 107) hE dX8_laysFirsts_104 rfl lF_X8_63 rfl rfl rfl ?_
          refine jv_iload_n (x := q6.1) (pc' := 108) hE dX8_laysFirsts_107 rfl 2 rfl rfl ?_
          refine jv_aload_n (x := 35) (pc' := 109) hE dX8_laysFirsts_108 rfl 0 rfl rfl ?_
          refine jv_get (v := .ref 52) (pc' := 112) hE dX8_laysFirsts_109 rfl lF_X8_63 rfl rfl rfl ?_
          refine jv_aload_n (x := 35) (pc' := 113) hE dX8_laysFirsts_112 rfl 0 rfl rfl ?_
          refine jv_get (v := .int ((σ.1 35 33) - (1 : Int32))) (pc' := 116) hE dX8_laysFirsts_113 rfl lF_X8_171 rfl rfl rfl ?_
          by_cases c9 : jv_ck ((σ.1 35 33) - (1 : Int32)) 1202 = true
          · rw [if_pos c9] at h
            refine jv_iald (pc' := 117) hE dX8_laysFirsts_116 rfl rfl (jv_ck_in c9) ?_
            show jv_V E 117 [some (.ref 35), none, some (.int q6.1), some (.int (σ.1 52 q6.1.toNatClampNeg)), some (.int (σ.1 51 q6.1.toNatClampNeg)), none] [.int (σ.1 52 ((σ.1 35 33) - (1 : Int32)).toNatClampNeg), .int q6.1, .ref 52] (jv_si σ 35 33 ((σ.1 35 33) - (1 : Int32)))
            by_cases c10 : jv_ck q6.1 1202 = true
            · rw [if_pos c10] at h
              refine jv_iast (pc' := 118) hE dX8_laysFirsts_117 rfl rfl (jv_ck_in c10) ?_
              refine jv_aload_n (x := 35) (pc' := 119) hE dX8_laysFirsts_118 rfl 0 rfl rfl ?_
              refine jv_get (v := .ref 51) (pc' := 122) hE dX8_laysFirsts_119 rfl lF_X8_60 rfl rfl rfl ?_
              refine jv_iload_n (x := q6.1) (pc' := 123) hE dX8_laysFirsts_122 rfl 2 rfl rfl ?_
              refine jv_aload_n (x := 35) (pc' := 124) hE dX8_laysFirsts_123 rfl 0 rfl rfl ?_
              refine jv_get (v := .ref 51) (pc' := 127) hE dX8_laysFirsts_124 rfl lF_X8_60 rfl rfl rfl ?_
              refine jv_aload_n (x := 35) (pc' := 128) hE dX8_laysFirsts_127 rfl 0 rfl rfl ?_
              refine jv_get (v := .int ((σ.1 35 33) - (1 : Int32))) (pc' := 131) hE dX8_laysFirsts_128 rfl lF_X8_171 rfl rfl rfl ?_
              by_cases c11 : jv_ck ((σ.1 35 33) - (1 : Int32)) 1202 = true
              · rw [if_pos c11] at h
                refine jv_iald (pc' := 132) hE dX8_laysFirsts_131 rfl rfl (jv_ck_in c11) ?_
                show jv_V E 132 [some (.ref 35), none, some (.int q6.1), some (.int (σ.1 52 q6.1.toNatClampNeg)), some (.int (σ.1 51 q6.1.toNatClampNeg)), none] [.int (σ.1 51 ((σ.1 35 33) - (1 : Int32)).toNatClampNeg), .int q6.1, .ref 51] (jv_si (jv_si σ 35 33 ((σ.1 35 33) - (1 : Int32))) 52 q6.1.toNatClampNeg (σ.1 52 ((σ.1 35 33) - (1 : Int32)).toNatClampNeg))
                by_cases c12 : jv_ck q6.1 1202 = true
                · rw [if_pos c12] at h
                  refine jv_iast (pc' := 133) hE dX8_laysFirsts_132 rfl rfl (jv_ck_in c12) ?_
                  refine jv_aload_n (x := 35) (pc' := 134) hE dX8_laysFirsts_133 rfl 0 rfl rfl ?_
                  refine jv_get (v := .ref 50) (pc' := 137) hE dX8_laysFirsts_134 rfl lF_X8_57 rfl rfl rfl ?_
                  refine jv_iload_n (x := (σ.1 52 q6.1.toNatClampNeg)) (pc' := 138) hE dX8_laysFirsts_137 rfl 3 rfl rfl ?_
                  by_cases c13 : jv_ck (σ.1 52 q6.1.toNatClampNeg) 10 = true
                  · rw [if_pos c13] at h
                    refine jv_iald (pc' := 139) hE dX8_laysFirsts_138 rfl rfl (jv_ck_in c13) ?_
                    show jv_V E 139 [some (.ref 35), none, some (.int q6.1), some (.int (σ.1 52 q6.1.toNatClampNeg)), some (.int (σ.1 51 q6.1.toNatClampNeg)), none] [.int (σ.1 50 (σ.1 52 q6.1.toNatClampNeg).toNatClampNeg)] (jv_si (jv_si (jv_si σ 35 33 ((σ.1 35 33) - (1 : Int32))) 52 q6.1.toNatClampNeg (σ.1 52 ((σ.1 35 33) - (1 : Int32)).toNatClampNeg)) 51 q6.1.toNatClampNeg (σ.1 51 ((σ.1 35 33) - (1 : Int32)).toNatClampNeg))
                    refine jv_bipush (v := (50 : Int32)) (pc' := 141) hE dX8_laysFirsts_139 rfl (by decide) ?_
                    obtain ⟨q15, hq15, h⟩ := jv_bd_some h
                    have kq15 : jv_V E 231 [some (.ref 35), none, none, none, none, none] [] q15 := by
                      refine jv_goto (tgt := 32) hE dX8_laysFirsts_231 (by decide) ?_
                      exact jv_forget [true, true, true, true, true, true] (ih q15 _ h hk)
                    refine jv_icmp_ge (x := (σ.1 50 (σ.1 52 q6.1.toNatClampNeg).toNatClampNeg)) (y := (50 : Int32)) (tgt := 231) (pc' := 144) hE dX8_laysFirsts_141 (by decide) rfl (fun c14 => ?_) (fun c14 => ?_)
                    · rw [if_pos c14] at hq15
                      cases hq15
                      exact jv_forget [true, true, false, false, false, true] kq15
                    · rw [if_neg c14] at hq15
                      refine jv_aload_n (x := 35) (pc' := 145) hE dX8_laysFirsts_144 rfl 0 rfl rfl ?_
                      refine jv_get (v := .ref 49) (pc' := 148) hE dX8_laysFirsts_145 rfl lF_X8_54 rfl rfl rfl ?_
                      refine jv_bipush (v := (50 : Int32)) (pc' := 150) hE dX8_laysFirsts_148 rfl (by decide) ?_
                      refine jv_iload_n (x := (σ.1 52 q6.1.toNatClampNeg)) (pc' := 151) hE dX8_laysFirsts_150 rfl 3 rfl rfl ?_
                      refine jv_imul (x := (50 : Int32)) (y := (σ.1 52 q6.1.toNatClampNeg)) (pc' := 152) hE dX8_laysFirsts_151 rfl ?_
                      refine jv_aload_n (x := 35) (pc' := 153) hE dX8_laysFirsts_152 rfl 0 rfl rfl ?_
                      refine jv_get (v := .ref 50) (pc' := 156) hE dX8_laysFirsts_153 rfl lF_X8_57 rfl rfl rfl ?_
                      refine jv_iload_n (x := (σ.1 52 q6.1.toNatClampNeg)) (pc' := 157) hE dX8_laysFirsts_156 rfl 3 rfl rfl ?_
                      by_cases c16 : jv_ck (σ.1 52 q6.1.toNatClampNeg) 10 = true
                      · rw [if_pos c16] at hq15
                        refine jv_iald (pc' := 158) hE dX8_laysFirsts_157 rfl rfl (jv_ck_in c16) ?_
                        show jv_V E 158 [some (.ref 35), none, some (.int q6.1), some (.int (σ.1 52 q6.1.toNatClampNeg)), some (.int (σ.1 51 q6.1.toNatClampNeg)), none] [.int (σ.1 50 (σ.1 52 q6.1.toNatClampNeg).toNatClampNeg), .int ((50 : Int32) * (σ.1 52 q6.1.toNatClampNeg)), .ref 49] (jv_si (jv_si (jv_si σ 35 33 ((σ.1 35 33) - (1 : Int32))) 52 q6.1.toNatClampNeg (σ.1 52 ((σ.1 35 33) - (1 : Int32)).toNatClampNeg)) 51 q6.1.toNatClampNeg (σ.1 51 ((σ.1 35 33) - (1 : Int32)).toNatClampNeg))
                        refine jv_iadd (x := ((50 : Int32) * (σ.1 52 q6.1.toNatClampNeg))) (y := (σ.1 50 (σ.1 52 q6.1.toNatClampNeg).toNatClampNeg)) (pc' := 159) hE dX8_laysFirsts_158 rfl ?_
                        refine jv_iload (x := (σ.1 51 q6.1.toNatClampNeg)) (pc' := 161) hE dX8_laysFirsts_159 rfl rfl ?_
                        by_cases c17 : jv_ck (((50 : Int32) * (σ.1 52 q6.1.toNatClampNeg)) + (σ.1 50 (σ.1 52 q6.1.toNatClampNeg).toNatClampNeg)) 500 = true
                        · rw [if_pos c17] at hq15
                          refine jv_iast (pc' := 162) hE dX8_laysFirsts_161 rfl rfl (jv_ck_in c17) ?_
                          refine jv_aload_n (x := 35) (pc' := 163) hE dX8_laysFirsts_162 rfl 0 rfl rfl ?_
                          refine jv_get (v := .ref 50) (pc' := 166) hE dX8_laysFirsts_163 rfl lF_X8_57 rfl rfl rfl ?_
                          refine jv_iload_n (x := (σ.1 52 q6.1.toNatClampNeg)) (pc' := 167) hE dX8_laysFirsts_166 rfl 3 rfl rfl ?_
                          refine jv_dup2 (pc' := 168) hE dX8_laysFirsts_167 rfl rfl rfl ?_
                          by_cases c18 : jv_ck (σ.1 52 q6.1.toNatClampNeg) 10 = true
                          · rw [if_pos c18] at hq15
                            refine jv_iald (pc' := 169) hE dX8_laysFirsts_168 rfl rfl (jv_ck_in c18) ?_
                            show jv_V E 169 [some (.ref 35), none, some (.int q6.1), some (.int (σ.1 52 q6.1.toNatClampNeg)), some (.int (σ.1 51 q6.1.toNatClampNeg)), none] [.int (σ.1 50 (σ.1 52 q6.1.toNatClampNeg).toNatClampNeg), .int (σ.1 52 q6.1.toNatClampNeg), .ref 50] (jv_si (jv_si (jv_si (jv_si σ 35 33 ((σ.1 35 33) - (1 : Int32))) 52 q6.1.toNatClampNeg (σ.1 52 ((σ.1 35 33) - (1 : Int32)).toNatClampNeg)) 51 q6.1.toNatClampNeg (σ.1 51 ((σ.1 35 33) - (1 : Int32)).toNatClampNeg)) 49 (((50 : Int32) * (σ.1 52 q6.1.toNatClampNeg)) + (σ.1 50 (σ.1 52 q6.1.toNatClampNeg).toNatClampNeg)).toNatClampNeg (σ.1 51 q6.1.toNatClampNeg))
                            refine jv_iconst (v := (1 : Int32)) (pc' := 170) hE dX8_laysFirsts_169 rfl (by decide) ?_
                            refine jv_iadd (x := (σ.1 50 (σ.1 52 q6.1.toNatClampNeg).toNatClampNeg)) (y := (1 : Int32)) (pc' := 171) hE dX8_laysFirsts_170 rfl ?_
                            by_cases c19 : jv_ck (σ.1 52 q6.1.toNatClampNeg) 10 = true
                            · rw [if_pos c19] at hq15
                              refine jv_iast (pc' := 172) hE dX8_laysFirsts_171 rfl rfl (jv_ck_in c19) ?_
                              refine jv_iconst (v := (0 : Int32)) (pc' := 173) hE dX8_laysFirsts_172 rfl (by decide) ?_
                              refine jv_istore (x := (0 : Int32)) (L' := [some (.ref 35), none, some (.int q6.1), some (.int (σ.1 52 q6.1.toNatClampNeg)), some (.int (σ.1 51 q6.1.toNatClampNeg)), some (.int (0 : Int32))]) (pc' := 175) hE dX8_laysFirsts_173 rfl (by decide) rfl rfl ?_
                              obtain ⟨q20, hq20, hq15⟩ := jv_bd_some hq15
                              refine jv_forget [true, true, false, true, true, true] (lp_X8_laysFirsts_175 hE jv_fuel (0 : Int32) (jv_si (jv_si (jv_si (jv_si (jv_si σ 35 33 ((σ.1 35 33) - (1 : Int32))) 52 q6.1.toNatClampNeg (σ.1 52 ((σ.1 35 33) - (1 : Int32)).toNatClampNeg)) 51 q6.1.toNatClampNeg (σ.1 51 ((σ.1 35 33) - (1 : Int32)).toNatClampNeg)) 49 (((50 : Int32) * (σ.1 52 q6.1.toNatClampNeg)) + (σ.1 50 (σ.1 52 q6.1.toNatClampNeg).toNatClampNeg)).toNatClampNeg (σ.1 51 q6.1.toNatClampNeg)) 50 (σ.1 52 q6.1.toNatClampNeg).toNatClampNeg ((σ.1 50 (σ.1 52 q6.1.toNatClampNeg).toNatClampNeg) + (1 : Int32))) _ hq20 ?_)
                              cases hq15
                              exact jv_forget [true, true, true, true, true, true] kq15
                            · rw [if_neg c19] at hq15; cases hq15
                          · rw [if_neg c18] at hq15; cases hq15
                        · rw [if_neg c17] at hq15; cases hq15
                      · rw [if_neg c16] at hq15; cases hq15
                  · rw [if_neg c13] at h; cases h
                · rw [if_neg c12] at h; cases h
              · rw [if_neg c11] at h; cases h
            · rw [if_neg c10] at h; cases h
          · rw [if_neg c9] at h; cases h
        · rw [if_neg c8] at h; cases h
      · rw [if_neg c7] at h; cases h
set_option maxRecDepth 100000 in
set_option maxHeartbeats 4000000 in
theorem ok_X8_laysFirsts {G : jv_G} {l : Launch} {σ : jv_S} {p1 : Int32} {r : jv_S} (h : f_X8_laysFirsts σ p1 = some r) : jv_Cn G l 2 M_X8_laysFirsts [.ref 35, .int p1] σ (none) r := by
  refine jv_of (L0 := [some (.ref 35), some (.int p1), none, none, none, none]) (by decide +kernel) (Nat.le_of_ble_eq_true rfl) rfl jv_okV (fun E e1 e2 hE hret => ?_)
  unfold f_X8_laysFirsts at h
  refine jv_iconst (v := (0 : Int32)) (pc' := 1) hE dX8_laysFirsts_0 rfl (by decide) ?_
  refine jv_istore_n (x := (0 : Int32)) (L' := [some (.ref 35), some (.int p1), some (.int (0 : Int32)), none, none, none]) (pc' := 2) hE dX8_laysFirsts_1 rfl 2 rfl (by decide) rfl rfl ?_
  obtain ⟨q3, hq3, h⟩ := jv_bd_some h
  refine jv_forget [true, true, true, true, true, true] (lp_X8_laysFirsts_2 hE jv_fuel (0 : Int32) σ _ hq3 ?_)
  refine jv_aload_n (x := 35) (pc' := 22) hE dX8_laysFirsts_21 rfl 0 rfl rfl ?_
  refine jv_iconst (v := (0 : Int32)) (pc' := 23) hE dX8_laysFirsts_22 rfl (by decide) ?_
  refine jv_puti (x := (0 : Int32)) (pc' := 26) hE dX8_laysFirsts_23 rfl lP_X8_171 rfl rfl rfl rfl ?_
  refine jv_aload_n (x := 35) (pc' := 27) hE dX8_laysFirsts_26 rfl 0 rfl rfl ?_
  refine jv_iload_n (x := p1) (pc' := 28) hE dX8_laysFirsts_27 rfl 1 rfl rfl ?_
  refine jv_iconst (v := (0 : Int32)) (pc' := 29) hE dX8_laysFirsts_28 rfl (by decide) ?_
  obtain ⟨q4, hq4, h⟩ := jv_bd_some h
  refine jv_callV (pc' := 32) (o := none) (σ' := q4) hE dX8_laysFirsts_29 rfl lV_X8_174 (ok_X8_waitsAt hq4) rfl rfl rfl (by decide) rfl (Nat.le_of_ble_eq_true rfl) ?_
  show jv_V E 32 [some (.ref 35), some (.int p1), none, none, none, none] [] q4
  obtain ⟨q21, hq21, h⟩ := jv_bd_some h
  refine jv_forget [true, false, true, true, true, true] (lp_X8_laysFirsts_32 hE jv_fuel q4 _ hq21 ?_)
  cases h
  exact hret _ _ dX8_laysFirsts_234
noncomputable def f_X8_startWalks (σ : jv_S) (p1 : Int32) (p2 : Int32) : Option (jv_S) := jv_lt (if (f_X8_areNodes σ p1 p2) = true then (false) else (true)) (fun q2 => jv_lt (f_X8_holds σ (jv_b q2)) (fun q3 => jv_bd (if q3.1 = true then (jv_bd (f_X8_laysFirsts (jv_si (jv_si (jv_si (jv_si (jv_si q3.2 35 23 (1 : Int32)) 35 24 p1) 35 25 p2) 35 26 (0 : Int32)) 35 27 (0 : Int32)) p2) (fun q6 => some q6)) else (some q3.2)) (fun q5 => some q5)))
set_option maxRecDepth 100000 in
set_option maxHeartbeats 4000000 in
theorem ok_X8_startWalks {G : jv_G} {l : Launch} {σ : jv_S} {p1 : Int32} {p2 : Int32} {r : jv_S} (h : f_X8_startWalks σ p1 p2 = some r) : jv_Cn G l 4 M_X8_startWalks [.ref 35, .int p1, .int p2] σ (none) r := by
  refine jv_of (L0 := [some (.ref 35), some (.int p1), some (.int p2)]) (by decide +kernel) (Nat.le_of_ble_eq_true rfl) rfl jv_okV (fun E e1 e2 hE hret => ?_)
  unfold f_X8_startWalks at h
  refine jv_aload_n (x := 35) (pc' := 1) hE dX8_startWalks_0 rfl 0 rfl rfl ?_
  refine jv_aload_n (x := 35) (pc' := 2) hE dX8_startWalks_1 rfl 0 rfl rfl ?_
  refine jv_iload_n (x := p1) (pc' := 3) hE dX8_startWalks_2 rfl 1 rfl rfl ?_
  refine jv_iload_n (x := p2) (pc' := 4) hE dX8_startWalks_3 rfl 2 rfl rfl ?_
  refine jv_callV (pc' := 7) (o := some (.int (jv_b (f_X8_areNodes σ p1 p2)))) (σ' := σ) hE dX8_startWalks_4 rfl lV_X8_101 (ok_X8_areNodes rfl) rfl rfl rfl (by decide) rfl (Nat.le_of_ble_eq_true rfl) ?_
  show jv_V E 7 [some (.ref 35), some (.int p1), some (.int p2)] [.int (jv_b (f_X8_areNodes σ p1 p2)), .ref 35] σ
  obtain ⟨q2, hq2, h⟩ := jv_lt_eq h
  have kq2 : jv_V E 15 [some (.ref 35), some (.int p1), some (.int p2)] [.int (jv_b q2), .ref 35] σ := by
    obtain ⟨q3, hq3, h⟩ := jv_lt_eq h
    refine jv_callV (pc' := 18) (o := some (.int (jv_b q3.1))) (σ' := q3.2) hE dX8_startWalks_15 rfl lV_X8_115 (ok_X8_holds hq3) rfl rfl rfl (by decide) rfl (Nat.le_of_ble_eq_true rfl) ?_
    show jv_V E 18 [some (.ref 35), some (.int p1), some (.int p2)] [.int (jv_b q3.1)] q3.2
    obtain ⟨q5, hq5, h⟩ := jv_bd_some h
    have kq5 : jv_V E 51 [none, none, none] [] q5 := by
      cases h
      exact hret _ _ dX8_startWalks_51
    refine jv_if_eq (x := (jv_b q3.1)) (tgt := 51) (pc' := 21) hE dX8_startWalks_18 (by decide) rfl (fun c4 => ?_) (fun c4 => ?_)
    · have c4 := jv_b0 c4
      rw [if_neg c4] at hq5
      cases hq5
      exact jv_forget [false, false, false] kq5
    · have c4 := jv_b1 c4
      rw [if_pos c4] at hq5
      refine jv_aload_n (x := 35) (pc' := 22) hE dX8_startWalks_21 rfl 0 rfl rfl ?_
      refine jv_iconst (v := (1 : Int32)) (pc' := 23) hE dX8_startWalks_22 rfl (by decide) ?_
      refine jv_puti (x := (1 : Int32)) (pc' := 26) hE dX8_startWalks_23 rfl lP_X8_112 rfl rfl (by decide) (by decide) ?_
      refine jv_aload_n (x := 35) (pc' := 27) hE dX8_startWalks_26 rfl 0 rfl rfl ?_
      refine jv_iload_n (x := p1) (pc' := 28) hE dX8_startWalks_27 rfl 1 rfl rfl ?_
      refine jv_puti (x := p1) (pc' := 31) hE dX8_startWalks_28 rfl lP_X8_177 rfl rfl rfl rfl ?_
      refine jv_aload_n (x := 35) (pc' := 32) hE dX8_startWalks_31 rfl 0 rfl rfl ?_
      refine jv_iload_n (x := p2) (pc' := 33) hE dX8_startWalks_32 rfl 2 rfl rfl ?_
      refine jv_puti (x := p2) (pc' := 36) hE dX8_startWalks_33 rfl lP_X8_180 rfl rfl rfl rfl ?_
      refine jv_aload_n (x := 35) (pc' := 37) hE dX8_startWalks_36 rfl 0 rfl rfl ?_
      refine jv_iconst (v := (0 : Int32)) (pc' := 38) hE dX8_startWalks_37 rfl (by decide) ?_
      refine jv_puti (x := (0 : Int32)) (pc' := 41) hE dX8_startWalks_38 rfl lP_X8_183 rfl rfl rfl rfl ?_
      refine jv_aload_n (x := 35) (pc' := 42) hE dX8_startWalks_41 rfl 0 rfl rfl ?_
      refine jv_iconst (v := (0 : Int32)) (pc' := 43) hE dX8_startWalks_42 rfl (by decide) ?_
      refine jv_puti (x := (0 : Int32)) (pc' := 46) hE dX8_startWalks_43 rfl lP_X8_186 rfl rfl rfl rfl ?_
      refine jv_aload_n (x := 35) (pc' := 47) hE dX8_startWalks_46 rfl 0 rfl rfl ?_
      refine jv_iload_n (x := p2) (pc' := 48) hE dX8_startWalks_47 rfl 2 rfl rfl ?_
      obtain ⟨q6, hq6, hq5⟩ := jv_bd_some hq5
      refine jv_callV (pc' := 51) (o := none) (σ' := q6) hE dX8_startWalks_48 rfl lV_X8_189 (ok_X8_laysFirsts hq6) rfl rfl rfl (by decide) rfl (Nat.le_of_ble_eq_true rfl) ?_
      show jv_V E 51 [some (.ref 35), some (.int p1), some (.int p2)] [] q6
      cases hq5
      exact jv_forget [false, false, false] kq5
  refine jv_if_eq (x := (jv_b (f_X8_areNodes σ p1 p2))) (tgt := 14) (pc' := 10) hE dX8_startWalks_7 (by decide) rfl (fun c1 => ?_) (fun c1 => ?_)
  · have c1 := jv_b0 c1
    rw [if_neg c1] at hq2
    refine jv_iconst (v := (1 : Int32)) (pc' := 15) hE dX8_startWalks_14 rfl (by decide) ?_
    cases hq2
    exact jv_forget [true, true, true] kq2
  · have c1 := jv_b1 c1
    rw [if_pos c1] at hq2
    refine jv_iconst (v := (0 : Int32)) (pc' := 11) hE dX8_startWalks_10 rfl (by decide) ?_
    refine jv_goto (tgt := 15) hE dX8_startWalks_11 (by decide) ?_
    cases hq2
    exact jv_forget [true, true, true] kq2
noncomputable def f_X8_alike_lp5 (a1 : Int32) (a2 : Int32) : Nat → Int32 → Int32 → jv_S → Option (Int32 × Int32)
  | 0, _, _, _ => none
  | n + 1, v3, v4, σ => if jv_ck a1 10 = true then (if (σ.1 50 a1.toNatClampNeg) ≤ v4 then (some (v3, v4)) else (if jv_ck (((50 : Int32) * a1) + v4) 500 = true then (jv_lt (if (σ.1 49 (((50 : Int32) * a1) + v4).toNatClampNeg) = a2 then (true) else (false)) (fun q5 => f_X8_alike_lp5 a1 a2 n (v3 + (jv_b q5)) (v4 + (1 : Int32)) σ)) else none)) else none
noncomputable def f_X8_alike (σ : jv_S) (p1 : Int32) (p2 : Int32) : Option (Int32) := jv_bd (f_X8_alike_lp5 p1 p2 jv_fuel (0 : Int32) (0 : Int32) σ) (fun q6 => some q6.1)
set_option maxRecDepth 100000 in
set_option maxHeartbeats 4000000 in
theorem lp_X8_alike_5 {σ : jv_S} {a1 : Int32} {a2 : Int32} {E : jv_E} (hE : jv_Cx E RX8 cX8_alike 5 1) : ∀ (n : Nat) (v3 : Int32) (v4 : Int32)  (q : Int32 × Int32), f_X8_alike_lp5 a1 a2 n v3 v4 σ = some q → (jv_V E 46 [none, none, none, some (.int q.1), none] [] σ) → jv_V E 5 [some (.ref 35), some (.int a1), some (.int a2), some (.int v3), some (.int v4)] [] σ := by
  intro n
  induction n with
  | zero =>
    intro v3 v4 q h
    rw [f_X8_alike_lp5] at h
    cases h
  | succ n ih =>
    intro v3 v4 q h hk
    rw [f_X8_alike_lp5] at h
    refine jv_iload (x := v4) (pc' := 7) hE dX8_alike_5 rfl rfl ?_
    refine jv_aload_n (x := 35) (pc' := 8) hE dX8_alike_7 rfl 0 rfl rfl ?_
    refine jv_get (v := .ref 50) (pc' := 11) hE dX8_alike_8 rfl lF_X8_57 rfl rfl rfl ?_
    refine jv_iload_n (x := a1) (pc' := 12) hE dX8_alike_11 rfl 1 rfl rfl ?_
    by_cases c1 : jv_ck a1 10 = true
    · rw [if_pos c1] at h
      refine jv_iald (pc' := 13) hE dX8_alike_12 rfl rfl (jv_ck_in c1) ?_
      show jv_V E 13 [some (.ref 35), some (.int a1), some (.int a2), some (.int v3), some (.int v4)] [.int (σ.1 50 a1.toNatClampNeg), .int v4] σ
      refine jv_icmp_ge (x := v4) (y := (σ.1 50 a1.toNatClampNeg)) (tgt := 46) (pc' := 16) hE dX8_alike_13 (by decide) rfl (fun c2 => ?_) (fun c2 => ?_)
      · rw [if_pos c2] at h
        cases h
        exact jv_forget [false, false, false, true, false] hk
      · rw [if_neg c2] at h
        refine jv_iload_n (x := v3) (pc' := 17) hE dX8_alike_16 rfl 3 rfl rfl ?_
        refine jv_aload_n (x := 35) (pc' := 18) hE dX8_alike_17 rfl 0 rfl rfl ?_
        refine jv_get (v := .ref 49) (pc' := 21) hE dX8_alike_18 rfl lF_X8_54 rfl rfl rfl ?_
        refine jv_bipush (v := (50 : Int32)) (pc' := 23) hE dX8_alike_21 rfl (by decide) ?_
        refine jv_iload_n (x := a1) (pc' := 24) hE dX8_alike_23 rfl 1 rfl rfl ?_
        refine jv_imul (x := (50 : Int32)) (y := a1) (pc' := 25) hE dX8_alike_24 rfl ?_
        refine jv_iload (x := v4) (pc' := 27) hE dX8_alike_25 rfl rfl ?_
        refine jv_iadd (x := ((50 : Int32) * a1)) (y := v4) (pc' := 28) hE dX8_alike_27 rfl ?_
        by_cases c3 : jv_ck (((50 : Int32) * a1) + v4) 500 = true
        · rw [if_pos c3] at h
          refine jv_iald (pc' := 29) hE dX8_alike_28 rfl rfl (jv_ck_in c3) ?_
          show jv_V E 29 [some (.ref 35), some (.int a1), some (.int a2), some (.int v3), some (.int v4)] [.int (σ.1 49 (((50 : Int32) * a1) + v4).toNatClampNeg), .int v3] σ
          refine jv_iload_n (x := a2) (pc' := 30) hE dX8_alike_29 rfl 2 rfl rfl ?_
          obtain ⟨q5, hq5, h⟩ := jv_lt_eq h
          have kq5 : jv_V E 38 [some (.ref 35), some (.int a1), some (.int a2), none, some (.int v4)] [.int (jv_b q5), .int v3] σ := by
            refine jv_iadd (x := v3) (y := (jv_b q5)) (pc' := 39) hE dX8_alike_38 rfl ?_
            refine jv_istore_n (x := (v3 + (jv_b q5))) (L' := [some (.ref 35), some (.int a1), some (.int a2), some (.int (v3 + (jv_b q5))), some (.int v4)]) (pc' := 40) hE dX8_alike_39 rfl 3 rfl (by decide) rfl rfl ?_
            refine jv_iinc (x := v4) (v := (v4 + (1 : Int32))) (L' := [some (.ref 35), some (.int a1), some (.int a2), some (.int (v3 + (jv_b q5))), some (.int (v4 + (1 : Int32)))]) (pc' := 43) hE dX8_alike_40 rfl rfl rfl (by decide) rfl rfl ?_
            refine jv_goto (tgt := 5) hE dX8_alike_43 (by decide) ?_
            exact jv_forget [true, true, true, true, true] (ih (v3 + (jv_b q5)) (v4 + (1 : Int32)) _ h hk)
          refine jv_icmp_ne (x := (σ.1 49 (((50 : Int32) * a1) + v4).toNatClampNeg)) (y := a2) (tgt := 37) (pc' := 33) hE dX8_alike_30 (by decide) rfl (fun c4 => ?_) (fun c4 => ?_)
          · rw [if_neg c4] at hq5
            refine jv_iconst (v := (0 : Int32)) (pc' := 38) hE dX8_alike_37 rfl (by decide) ?_
            cases hq5
            exact jv_forget [true, true, true, false, true] kq5
          · rw [if_pos c4] at hq5
            refine jv_iconst (v := (1 : Int32)) (pc' := 34) hE dX8_alike_33 rfl (by decide) ?_
            refine jv_goto (tgt := 38) hE dX8_alike_34 (by decide) ?_
            cases hq5
            exact jv_forget [true, true, true, false, true] kq5
        · rw [if_neg c3] at h; cases h
    · rw [if_neg c1] at h; cases h
set_option maxRecDepth 100000 in
set_option maxHeartbeats 4000000 in
theorem ok_X8_alike {G : jv_G} {l : Launch} {σ : jv_S} {p1 : Int32} {p2 : Int32} {r : Int32} (h : f_X8_alike σ p1 p2 = some r) : jv_Cn G l 1 M_X8_alike [.ref 35, .int p1, .int p2] σ (some (.int r)) σ := by
  refine jv_of (L0 := [some (.ref 35), some (.int p1), some (.int p2), none, none]) (by decide +kernel) (Nat.le_of_ble_eq_true rfl) rfl (jv_okI _) (fun E e1 e2 hE hret => ?_)
  unfold f_X8_alike at h
  refine jv_iconst (v := (0 : Int32)) (pc' := 1) hE dX8_alike_0 rfl (by decide) ?_
  refine jv_istore_n (x := (0 : Int32)) (L' := [some (.ref 35), some (.int p1), some (.int p2), some (.int (0 : Int32)), none]) (pc' := 2) hE dX8_alike_1 rfl 3 rfl (by decide) rfl rfl ?_
  refine jv_iconst (v := (0 : Int32)) (pc' := 3) hE dX8_alike_2 rfl (by decide) ?_
  refine jv_istore (x := (0 : Int32)) (L' := [some (.ref 35), some (.int p1), some (.int p2), some (.int (0 : Int32)), some (.int (0 : Int32))]) (pc' := 5) hE dX8_alike_3 rfl (by decide) rfl rfl ?_
  obtain ⟨q6, hq6, h⟩ := jv_bd_some h
  refine jv_forget [true, true, true, true, true] (lp_X8_alike_5 hE jv_fuel (0 : Int32) (0 : Int32) _ hq6 ?_)
  refine jv_iload_n (x := q6.1) (pc' := 47) hE dX8_alike_46 rfl 3 rfl rfl ?_
  cases h
  exact hret _ _ dX8_alike_47
noncomputable def f_X8_leads (σ : jv_S) (p1 : Int32) (p2 : Int32) (p3 : Int32) : Option (Int32) := jv_bd (f_X8_isUsable σ p1) (fun q1 => jv_bd (if q1 = true then (if jv_ck p1 24 = true then (if (σ.1 36 p1.toNatClampNeg) = p2 then (if jv_ck p1 24 = true then (if jv_ck p1 24 = true then (jv_bd (f_X8_alike σ (σ.1 37 p1.toNatClampNeg) (p3 - (σ.1 38 p1.toNatClampNeg))) (fun q8 => some q8)) else none) else none) else (some (0 : Int32))) else none) else (some (0 : Int32))) (fun q3 => some q3))
set_option maxRecDepth 100000 in
set_option maxHeartbeats 4000000 in
theorem ok_X8_leads {G : jv_G} {l : Launch} {σ : jv_S} {p1 : Int32} {p2 : Int32} {p3 : Int32} {r : Int32} (h : f_X8_leads σ p1 p2 p3 = some r) : jv_Cn G l 2 M_X8_leads [.ref 35, .int p1, .int p2, .int p3] σ (some (.int r)) σ := by
  refine jv_of (L0 := [some (.ref 35), some (.int p1), some (.int p2), some (.int p3)]) (by decide +kernel) (Nat.le_of_ble_eq_true rfl) rfl (jv_okI _) (fun E e1 e2 hE hret => ?_)
  unfold f_X8_leads at h
  refine jv_aload_n (x := 35) (pc' := 1) hE dX8_leads_0 rfl 0 rfl rfl ?_
  refine jv_iload_n (x := p1) (pc' := 2) hE dX8_leads_1 rfl 1 rfl rfl ?_
  obtain ⟨q1, hq1, h⟩ := jv_bd_some h
  refine jv_callV (pc' := 5) (o := some (.int (jv_b q1))) (σ' := σ) hE dX8_leads_2 rfl lV_X8_127 (ok_X8_isUsable hq1) rfl rfl rfl (by decide) rfl (Nat.le_of_ble_eq_true rfl) ?_
  show jv_V E 5 [some (.ref 35), some (.int p1), some (.int p2), some (.int p3)] [.int (jv_b q1)] σ
  obtain ⟨q3, hq3, h⟩ := jv_bd_some h
  have kq3 : jv_V E 40 [none, none, none, none] [.int q3] σ := by
    cases h
    exact hret _ _ dX8_leads_40
  refine jv_if_eq (x := (jv_b q1)) (tgt := 39) (pc' := 8) hE dX8_leads_5 (by decide) rfl (fun c2 => ?_) (fun c2 => ?_)
  · have c2 := jv_b0 c2
    rw [if_neg c2] at hq3
    refine jv_iconst (v := (0 : Int32)) (pc' := 40) hE dX8_leads_39 rfl (by decide) ?_
    cases hq3
    exact jv_forget [false, false, false, false] kq3
  · have c2 := jv_b1 c2
    rw [if_pos c2] at hq3
    refine jv_aload_n (x := 35) (pc' := 9) hE dX8_leads_8 rfl 0 rfl rfl ?_
    refine jv_get (v := .ref 36) (pc' := 12) hE dX8_leads_9 rfl lF_X8_13 rfl rfl rfl ?_
    refine jv_iload_n (x := p1) (pc' := 13) hE dX8_leads_12 rfl 1 rfl rfl ?_
    by_cases c4 : jv_ck p1 24 = true
    · rw [if_pos c4] at hq3
      refine jv_iald (pc' := 14) hE dX8_leads_13 rfl rfl (jv_ck_in c4) ?_
      show jv_V E 14 [some (.ref 35), some (.int p1), some (.int p2), some (.int p3)] [.int (σ.1 36 p1.toNatClampNeg)] σ
      refine jv_iload_n (x := p2) (pc' := 15) hE dX8_leads_14 rfl 2 rfl rfl ?_
      refine jv_icmp_ne (x := (σ.1 36 p1.toNatClampNeg)) (y := p2) (tgt := 39) (pc' := 18) hE dX8_leads_15 (by decide) rfl (fun c5 => ?_) (fun c5 => ?_)
      · rw [if_neg c5] at hq3
        refine jv_iconst (v := (0 : Int32)) (pc' := 40) hE dX8_leads_39 rfl (by decide) ?_
        cases hq3
        exact jv_forget [false, false, false, false] kq3
      · rw [if_pos c5] at hq3
        refine jv_aload_n (x := 35) (pc' := 19) hE dX8_leads_18 rfl 0 rfl rfl ?_
        refine jv_aload_n (x := 35) (pc' := 20) hE dX8_leads_19 rfl 0 rfl rfl ?_
        refine jv_get (v := .ref 37) (pc' := 23) hE dX8_leads_20 rfl lF_X8_17 rfl rfl rfl ?_
        refine jv_iload_n (x := p1) (pc' := 24) hE dX8_leads_23 rfl 1 rfl rfl ?_
        by_cases c6 : jv_ck p1 24 = true
        · rw [if_pos c6] at hq3
          refine jv_iald (pc' := 25) hE dX8_leads_24 rfl rfl (jv_ck_in c6) ?_
          show jv_V E 25 [some (.ref 35), some (.int p1), some (.int p2), some (.int p3)] [.int (σ.1 37 p1.toNatClampNeg), .ref 35] σ
          refine jv_iload_n (x := p3) (pc' := 26) hE dX8_leads_25 rfl 3 rfl rfl ?_
          refine jv_aload_n (x := 35) (pc' := 27) hE dX8_leads_26 rfl 0 rfl rfl ?_
          refine jv_get (v := .ref 38) (pc' := 30) hE dX8_leads_27 rfl lF_X8_20 rfl rfl rfl ?_
          refine jv_iload_n (x := p1) (pc' := 31) hE dX8_leads_30 rfl 1 rfl rfl ?_
          by_cases c7 : jv_ck p1 24 = true
          · rw [if_pos c7] at hq3
            refine jv_iald (pc' := 32) hE dX8_leads_31 rfl rfl (jv_ck_in c7) ?_
            show jv_V E 32 [some (.ref 35), some (.int p1), some (.int p2), some (.int p3)] [.int (σ.1 38 p1.toNatClampNeg), .int p3, .int (σ.1 37 p1.toNatClampNeg), .ref 35] σ
            refine jv_isub (x := p3) (y := (σ.1 38 p1.toNatClampNeg)) (pc' := 33) hE dX8_leads_32 rfl ?_
            obtain ⟨q8, hq8, hq3⟩ := jv_bd_some hq3
            refine jv_callV (pc' := 36) (o := some (.int q8)) (σ' := σ) hE dX8_leads_33 rfl lV_X8_197 (ok_X8_alike hq8) rfl rfl rfl (by decide) rfl (Nat.le_of_ble_eq_true rfl) ?_
            show jv_V E 36 [some (.ref 35), some (.int p1), some (.int p2), some (.int p3)] [.int q8] σ
            refine jv_goto (tgt := 40) hE dX8_leads_36 (by decide) ?_
            cases hq3
            exact jv_forget [false, false, false, false] kq3
          · rw [if_neg c7] at hq3; cases hq3
        · rw [if_neg c6] at hq3; cases hq3
    · rw [if_neg c4] at hq3; cases hq3
noncomputable def f_X8_laysWalk_lp35 (a3 : Int32) (a4 : Int32) : Nat → Int32 → Int32 → Int32 → jv_S → Option (Int32 × Int32 × Int32)
  | 0, _, _, _, _ => none
  | n + 1, v5, v6, v7, σ => if v5 < v7 then (some (v5, v6, v7)) else (jv_bd (f_X8_leads σ (v6 + (1 : Int32)) a3 a4) (fun q4 => f_X8_laysWalk_lp35 a3 a4 n (v5 - v7) (v6 + (1 : Int32)) q4 σ))
noncomputable def f_X8_laysWalk_lp16 : Nat → Int32 → Int32 → Int32 → jv_S → Option (Int32 × Int32 × Int32 × jv_S)
  | 0, _, _, _, _ => none
  | n + 1, v3, v4, v5, σ => if v4 ≤ 0 then (some (v3, v4, v5, σ)) else (jv_bd (f_X8_leads σ (0 : Int32) v3 v4) (fun q2 => jv_bd (f_X8_laysWalk_lp35 v3 v4 jv_fuel v5 (0 : Int32) q2 σ) (fun q3 => if jv_ck (σ.1 35 27) 512 = true then (if jv_ck q3.2.1 24 = true then (if jv_ck q3.2.1 24 = true then (f_X8_laysWalk_lp16 n (σ.1 37 q3.2.1.toNatClampNeg) (v4 - (σ.1 38 q3.2.1.toNatClampNeg)) q3.1 (jv_si (jv_si σ 48 (σ.1 35 27).toNatClampNeg q3.2.1) 35 27 ((σ.1 35 27) + (1 : Int32)))) else none) else none) else none)))
noncomputable def f_X8_laysWalk (σ : jv_S) (p1 : Int32) (p2 : Int32) : Option (jv_S) := jv_bd (f_X8_laysWalk_lp16 jv_fuel (σ.1 35 24) p1 p2 (jv_si σ 35 27 (0 : Int32))) (fun q7 => some q7.2.2.2)
set_option maxRecDepth 100000 in
set_option maxHeartbeats 4000000 in
theorem lp_X8_laysWalk_35 {σ : jv_S} {a3 : Int32} {a4 : Int32} {E : jv_E} (hE : jv_Cx E RX8 cX8_laysWalk 8 3) : ∀ (n : Nat) (v5 : Int32) (v6 : Int32) (v7 : Int32)  (q : Int32 × Int32 × Int32), f_X8_laysWalk_lp35 a3 a4 n v5 v6 v7 σ = some q → (jv_V E 66 [some (.ref 35), none, none, none, some (.int a4), some (.int q.1), some (.int q.2.1), none] [] σ) → jv_V E 35 [some (.ref 35), none, none, some (.int a3), some (.int a4), some (.int v5), some (.int v6), some (.int v7)] [] σ := by
  intro n
  induction n with
  | zero =>
    intro v5 v6 v7 q h
    rw [f_X8_laysWalk_lp35] at h
    cases h
  | succ n ih =>
    intro v5 v6 v7 q h hk
    rw [f_X8_laysWalk_lp35] at h
    refine jv_iload (x := v7) (pc' := 37) hE dX8_laysWalk_35 rfl rfl ?_
    refine jv_iload (x := v5) (pc' := 39) hE dX8_laysWalk_37 rfl rfl ?_
    refine jv_icmp_gt (x := v7) (y := v5) (tgt := 66) (pc' := 42) hE dX8_laysWalk_39 (by decide) rfl (fun c3 => ?_) (fun c3 => ?_)
    · rw [if_pos c3] at h
      cases h
      exact jv_forget [true, true, true, false, true, true, true, false] hk
    · rw [if_neg c3] at h
      refine jv_iload (x := v5) (pc' := 44) hE dX8_laysWalk_42 rfl rfl ?_
      refine jv_iload (x := v7) (pc' := 46) hE dX8_laysWalk_44 rfl rfl ?_
      refine jv_isub (x := v5) (y := v7) (pc' := 47) hE dX8_laysWalk_46 rfl ?_
      refine jv_istore (x := (v5 - v7)) (L' := [some (.ref 35), none, none, some (.int a3), some (.int a4), some (.int (v5 - v7)), some (.int v6), some (.int v7)]) (pc' := 49) hE dX8_laysWalk_47 rfl (by decide) rfl rfl ?_
      refine jv_iinc (x := v6) (v := (v6 + (1 : Int32))) (L' := [some (.ref 35), none, none, some (.int a3), some (.int a4), some (.int (v5 - v7)), some (.int (v6 + (1 : Int32))), some (.int v7)]) (pc' := 52) hE dX8_laysWalk_49 rfl rfl rfl (by decide) rfl rfl ?_
      refine jv_aload_n (x := 35) (pc' := 53) hE dX8_laysWalk_52 rfl 0 rfl rfl ?_
      refine jv_iload (x := (v6 + (1 : Int32))) (pc' := 55) hE dX8_laysWalk_53 rfl rfl ?_
      refine jv_iload_n (x := a3) (pc' := 56) hE dX8_laysWalk_55 rfl 3 rfl rfl ?_
      refine jv_iload (x := a4) (pc' := 58) hE dX8_laysWalk_56 rfl rfl ?_
      obtain ⟨q4, hq4, h⟩ := jv_bd_some h
      refine jv_callV (pc' := 61) (o := some (.int q4)) (σ' := σ) hE dX8_laysWalk_58 rfl lV_X8_193 (ok_X8_leads hq4) rfl rfl rfl (by decide) rfl (Nat.le_of_ble_eq_true rfl) ?_
      show jv_V E 61 [some (.ref 35), none, none, some (.int a3), some (.int a4), some (.int (v5 - v7)), some (.int (v6 + (1 : Int32))), some (.int v7)] [.int q4] σ
      refine jv_istore (x := q4) (L' := [some (.ref 35), none, none, some (.int a3), some (.int a4), some (.int (v5 - v7)), some (.int (v6 + (1 : Int32))), some (.int q4)]) (pc' := 63) hE dX8_laysWalk_61 rfl (by decide) rfl rfl ?_
      refine jv_goto (tgt := 35) hE dX8_laysWalk_63 (by decide) ?_
      exact jv_forget [true, true, true, true, true, true, true, true] (ih (v5 - v7) (v6 + (1 : Int32)) q4 _ h hk)
set_option maxRecDepth 100000 in
set_option maxHeartbeats 4000000 in
theorem lp_X8_laysWalk_16 {E : jv_E} (hE : jv_Cx E RX8 cX8_laysWalk 8 3) : ∀ (n : Nat) (v3 : Int32) (v4 : Int32) (v5 : Int32) (σ : jv_S) (q : Int32 × Int32 × Int32 × jv_S), f_X8_laysWalk_lp16 n v3 v4 v5 σ = some q → (jv_V E 110 [none, none, none, none, none, none, none, none] [] q.2.2.2) → jv_V E 16 [some (.ref 35), none, none, some (.int v3), some (.int v4), some (.int v5), none, none] [] σ := by
  intro n
  induction n with
  | zero =>
    intro v3 v4 v5 σ q h
    rw [f_X8_laysWalk_lp16] at h
    cases h
  | succ n ih =>
    intro v3 v4 v5 σ q h hk
    rw [f_X8_laysWalk_lp16] at h
    refine jv_iload (x := v4) (pc' := 18) hE dX8_laysWalk_16 rfl rfl ?_
    refine jv_if_le (x := v4) (tgt := 110) (pc' := 21) hE dX8_laysWalk_18 (by decide) rfl (fun c1 => ?_) (fun c1 => ?_)
    · rw [if_pos c1] at h
      cases h
      exact jv_forget [false, true, true, false, false, false, true, true] hk
    · rw [if_neg c1] at h
      refine jv_iconst (v := (0 : Int32)) (pc' := 22) hE dX8_laysWalk_21 rfl (by decide) ?_
      refine jv_istore (x := (0 : Int32)) (L' := [some (.ref 35), none, none, some (.int v3), some (.int v4), some (.int v5), some (.int (0 : Int32)), none]) (pc' := 24) hE dX8_laysWalk_22 rfl (by decide) rfl rfl ?_
      refine jv_aload_n (x := 35) (pc' := 25) hE dX8_laysWalk_24 rfl 0 rfl rfl ?_
      refine jv_iload (x := (0 : Int32)) (pc' := 27) hE dX8_laysWalk_25 rfl rfl ?_
      refine jv_iload_n (x := v3) (pc' := 28) hE dX8_laysWalk_27 rfl 3 rfl rfl ?_
      refine jv_iload (x := v4) (pc' := 30) hE dX8_laysWalk_28 rfl rfl ?_
      obtain ⟨q2, hq2, h⟩ := jv_bd_some h
      refine jv_callV (pc' := 33) (o := some (.int q2)) (σ' := σ) hE dX8_laysWalk_30 rfl lV_X8_193 (ok_X8_leads hq2) rfl rfl rfl (by decide) rfl (Nat.le_of_ble_eq_true rfl) ?_
      show jv_V E 33 [some (.ref 35), none, none, some (.int v3), some (.int v4), some (.int v5), some (.int (0 : Int32)), none] [.int q2] σ
      refine jv_istore (x := q2) (L' := [some (.ref 35), none, none, some (.int v3), some (.int v4), some (.int v5), some (.int (0 : Int32)), some (.int q2)]) (pc' := 35) hE dX8_laysWalk_33 rfl (by decide) rfl rfl ?_
      obtain ⟨q3, hq3, h⟩ := jv_bd_some h
      refine jv_forget [true, true, true, true, true, true, true, true] (lp_X8_laysWalk_35 hE jv_fuel v5 (0 : Int32) q2 _ hq3 ?_)
      refine jv_aload_n (x := 35) (pc' := 67) hE dX8_laysWalk_66 rfl 0 rfl rfl ?_
      refine jv_get (v := .ref 48) (pc' := 70) hE dX8_laysWalk_67 rfl lF_X8_51 rfl rfl rfl ?_
      refine jv_aload_n (x := 35) (pc' := 71) hE dX8_laysWalk_70 rfl 0 rfl rfl ?_
      refine jv_get (v := .int (σ.1 35 27)) (pc' := 74) hE dX8_laysWalk_71 rfl lF_X8_186 rfl rfl rfl ?_
      refine jv_iload (x := q3.2.1) (pc' := 76) hE dX8_laysWalk_74 rfl rfl ?_
      by_cases c4 : jv_ck (σ.1 35 27) 512 = true
      · rw [if_pos c4] at h
        refine jv_iast (pc' := 77) hE dX8_laysWalk_76 rfl rfl (jv_ck_in c4) ?_
        refine jv_aload_n (x := 35) (pc' := 78) hE dX8_laysWalk_77 rfl 0 rfl rfl ?_
        refine jv_dup (pc' := 79) hE dX8_laysWalk_78 rfl rfl ?_
        refine jv_get (v := .int (σ.1 35 27)) (pc' := 82) hE dX8_laysWalk_79 rfl lF_X8_186 rfl rfl rfl ?_
        refine jv_iconst (v := (1 : Int32)) (pc' := 83) hE dX8_laysWalk_82 rfl (by decide) ?_
        refine jv_iadd (x := (σ.1 35 27)) (y := (1 : Int32)) (pc' := 84) hE dX8_laysWalk_83 rfl ?_
        refine jv_puti (x := ((σ.1 35 27) + (1 : Int32))) (pc' := 87) hE dX8_laysWalk_84 rfl lP_X8_186 rfl rfl rfl rfl ?_
        refine jv_iload (x := v4) (pc' := 89) hE dX8_laysWalk_87 rfl rfl ?_
        refine jv_aload_n (x := 35) (pc' := 90) hE dX8_laysWalk_89 rfl 0 rfl rfl ?_
        refine jv_get (v := .ref 38) (pc' := 93) hE dX8_laysWalk_90 rfl lF_X8_20 rfl rfl rfl ?_
        refine jv_iload (x := q3.2.1) (pc' := 95) hE dX8_laysWalk_93 rfl rfl ?_
        by_cases c5 : jv_ck q3.2.1 24 = true
        · rw [if_pos c5] at h
          refine jv_iald (pc' := 96) hE dX8_laysWalk_95 rfl rfl (jv_ck_in c5) ?_
          show jv_V E 96 [some (.ref 35), none, none, none, some (.int v4), some (.int q3.1), some (.int q3.2.1), none] [.int (σ.1 38 q3.2.1.toNatClampNeg), .int v4] (jv_si (jv_si σ 48 (σ.1 35 27).toNatClampNeg q3.2.1) 35 27 ((σ.1 35 27) + (1 : Int32)))
          refine jv_isub (x := v4) (y := (σ.1 38 q3.2.1.toNatClampNeg)) (pc' := 97) hE dX8_laysWalk_96 rfl ?_
          refine jv_istore (x := (v4 - (σ.1 38 q3.2.1.toNatClampNeg))) (L' := [some (.ref 35), none, none, none, some (.int (v4 - (σ.1 38 q3.2.1.toNatClampNeg))), some (.int q3.1), some (.int q3.2.1), none]) (pc' := 99) hE dX8_laysWalk_97 rfl (by decide) rfl rfl ?_
          refine jv_aload_n (x := 35) (pc' := 100) hE dX8_laysWalk_99 rfl 0 rfl rfl ?_
          refine jv_get (v := .ref 37) (pc' := 103) hE dX8_laysWalk_100 rfl lF_X8_17 rfl rfl rfl ?_
          refine jv_iload (x := q3.2.1) (pc' := 105) hE dX8_laysWalk_103 rfl rfl ?_
          by_cases c6 : jv_ck q3.2.1 24 = true
          · rw [if_pos c6] at h
            refine jv_iald (pc' := 106) hE dX8_laysWalk_105 rfl rfl (jv_ck_in c6) ?_
            show jv_V E 106 [some (.ref 35), none, none, none, some (.int (v4 - (σ.1 38 q3.2.1.toNatClampNeg))), some (.int q3.1), some (.int q3.2.1), none] [.int (σ.1 37 q3.2.1.toNatClampNeg)] (jv_si (jv_si σ 48 (σ.1 35 27).toNatClampNeg q3.2.1) 35 27 ((σ.1 35 27) + (1 : Int32)))
            refine jv_istore_n (x := (σ.1 37 q3.2.1.toNatClampNeg)) (L' := [some (.ref 35), none, none, some (.int (σ.1 37 q3.2.1.toNatClampNeg)), some (.int (v4 - (σ.1 38 q3.2.1.toNatClampNeg))), some (.int q3.1), some (.int q3.2.1), none]) (pc' := 107) hE dX8_laysWalk_106 rfl 3 rfl (by decide) rfl rfl ?_
            refine jv_goto (tgt := 16) hE dX8_laysWalk_107 (by decide) ?_
            exact jv_forget [true, true, true, true, true, true, false, true] (ih (σ.1 37 q3.2.1.toNatClampNeg) (v4 - (σ.1 38 q3.2.1.toNatClampNeg)) q3.1 (jv_si (jv_si σ 48 (σ.1 35 27).toNatClampNeg q3.2.1) 35 27 ((σ.1 35 27) + (1 : Int32))) _ h hk)
          · rw [if_neg c6] at h; cases h
        · rw [if_neg c5] at h; cases h
      · rw [if_neg c4] at h; cases h
set_option maxRecDepth 100000 in
set_option maxHeartbeats 4000000 in
theorem ok_X8_laysWalk {G : jv_G} {l : Launch} {σ : jv_S} {p1 : Int32} {p2 : Int32} {r : jv_S} (h : f_X8_laysWalk σ p1 p2 = some r) : jv_Cn G l 3 M_X8_laysWalk [.ref 35, .int p1, .int p2] σ (none) r := by
  refine jv_of (L0 := [some (.ref 35), some (.int p1), some (.int p2), none, none, none, none, none]) (by decide +kernel) (Nat.le_of_ble_eq_true rfl) rfl jv_okV (fun E e1 e2 hE hret => ?_)
  unfold f_X8_laysWalk at h
  refine jv_aload_n (x := 35) (pc' := 1) hE dX8_laysWalk_0 rfl 0 rfl rfl ?_
  refine jv_get (v := .int (σ.1 35 24)) (pc' := 4) hE dX8_laysWalk_1 rfl lF_X8_177 rfl rfl rfl ?_
  refine jv_istore_n (x := (σ.1 35 24)) (L' := [some (.ref 35), some (.int p1), some (.int p2), some (.int (σ.1 35 24)), none, none, none, none]) (pc' := 5) hE dX8_laysWalk_4 rfl 3 rfl (by decide) rfl rfl ?_
  refine jv_iload_n (x := p1) (pc' := 6) hE dX8_laysWalk_5 rfl 1 rfl rfl ?_
  refine jv_istore (x := p1) (L' := [some (.ref 35), some (.int p1), some (.int p2), some (.int (σ.1 35 24)), some (.int p1), none, none, none]) (pc' := 8) hE dX8_laysWalk_6 rfl (by decide) rfl rfl ?_
  refine jv_iload_n (x := p2) (pc' := 9) hE dX8_laysWalk_8 rfl 2 rfl rfl ?_
  refine jv_istore (x := p2) (L' := [some (.ref 35), some (.int p1), some (.int p2), some (.int (σ.1 35 24)), some (.int p1), some (.int p2), none, none]) (pc' := 11) hE dX8_laysWalk_9 rfl (by decide) rfl rfl ?_
  refine jv_aload_n (x := 35) (pc' := 12) hE dX8_laysWalk_11 rfl 0 rfl rfl ?_
  refine jv_iconst (v := (0 : Int32)) (pc' := 13) hE dX8_laysWalk_12 rfl (by decide) ?_
  refine jv_puti (x := (0 : Int32)) (pc' := 16) hE dX8_laysWalk_13 rfl lP_X8_186 rfl rfl rfl rfl ?_
  obtain ⟨q7, hq7, h⟩ := jv_bd_some h
  refine jv_forget [true, false, false, true, true, true, true, true] (lp_X8_laysWalk_16 hE jv_fuel (σ.1 35 24) p1 p2 (jv_si σ 35 27 (0 : Int32)) _ hq7 ?_)
  cases h
  exact hret _ _ dX8_laysWalk_110
noncomputable def f_X8_nextWalk_lp72 (a1 : Int32) : Nat → Int32 → Int32 → jv_S → Option (Int32 × Int32)
  | 0, _, _, _ => none
  | n + 1, v2, v3, σ => if (σ.1 35 26) ≤ v3 then (some (v2, v3)) else (if jv_ck (((50 : Int32) * (σ.1 35 24)) + v3) 500 = true then (jv_lt (if (σ.1 49 (((50 : Int32) * (σ.1 35 24)) + v3).toNatClampNeg) = a1 then (true) else (false)) (fun q12 => f_X8_nextWalk_lp72 a1 n (v2 + (jv_b q12)) (v3 + (1 : Int32)) σ)) else none)
noncomputable def f_X8_nextWalk (σ : jv_S) : Option (Int32 × jv_S) := jv_bd (if (σ.1 35 23) = 0 then (some (1 : Int32)) else (if (σ.1 35 26) = (50 : Int32) then (some (1 : Int32)) else (if jv_ck (σ.1 35 24) 10 = true then (if (σ.1 35 26) = (σ.1 50 (σ.1 35 24).toNatClampNeg) then (some (2 : Int32)) else (some (0 : Int32))) else none))) (fun q2 => jv_lt (f_X8_holds σ q2) (fun q6 => if q6.1 = true then (if jv_ck (((50 : Int32) * (q6.2.1 35 24)) + (q6.2.1 35 26)) 500 = true then (jv_bd (f_X8_nextWalk_lp72 (q6.2.1 49 (((50 : Int32) * (q6.2.1 35 24)) + (q6.2.1 35 26)).toNatClampNeg) jv_fuel (0 : Int32) (0 : Int32) q6.2) (fun q13 => jv_bd (f_X8_laysWalk q6.2 (q6.2.1 49 (((50 : Int32) * (q6.2.1 35 24)) + (q6.2.1 35 26)).toNatClampNeg) q13.1) (fun q14 => some ((q6.2.1 49 (((50 : Int32) * (q6.2.1 35 24)) + (q6.2.1 35 26)).toNatClampNeg), (jv_si q14 35 26 ((q14.1 35 26) + (1 : Int32))))))) else none) else (some ((0 : Int32), q6.2))))
set_option maxRecDepth 100000 in
set_option maxHeartbeats 4000000 in
theorem lp_X8_nextWalk_72 {σ : jv_S} {a1 : Int32} {E : jv_E} (hE : jv_Cx E RX8 cX8_nextWalk 4 4) : ∀ (n : Nat) (v2 : Int32) (v3 : Int32)  (q : Int32 × Int32), f_X8_nextWalk_lp72 a1 n v2 v3 σ = some q → (jv_V E 112 [some (.ref 35), some (.int a1), some (.int q.1), none] [] σ) → jv_V E 72 [some (.ref 35), some (.int a1), some (.int v2), some (.int v3)] [] σ := by
  intro n
  induction n with
  | zero =>
    intro v2 v3 q h
    rw [f_X8_nextWalk_lp72] at h
    cases h
  | succ n ih =>
    intro v2 v3 q h hk
    rw [f_X8_nextWalk_lp72] at h
    refine jv_iload_n (x := v3) (pc' := 73) hE dX8_nextWalk_72 rfl 3 rfl rfl ?_
    refine jv_aload_n (x := 35) (pc' := 74) hE dX8_nextWalk_73 rfl 0 rfl rfl ?_
    refine jv_get (v := .int (σ.1 35 26)) (pc' := 77) hE dX8_nextWalk_74 rfl lF_X8_183 rfl rfl rfl ?_
    refine jv_icmp_ge (x := v3) (y := (σ.1 35 26)) (tgt := 112) (pc' := 80) hE dX8_nextWalk_77 (by decide) rfl (fun c9 => ?_) (fun c9 => ?_)
    · rw [if_pos c9] at h
      cases h
      exact jv_forget [true, true, true, false] hk
    · rw [if_neg c9] at h
      refine jv_iload_n (x := v2) (pc' := 81) hE dX8_nextWalk_80 rfl 2 rfl rfl ?_
      refine jv_aload_n (x := 35) (pc' := 82) hE dX8_nextWalk_81 rfl 0 rfl rfl ?_
      refine jv_get (v := .ref 49) (pc' := 85) hE dX8_nextWalk_82 rfl lF_X8_54 rfl rfl rfl ?_
      refine jv_bipush (v := (50 : Int32)) (pc' := 87) hE dX8_nextWalk_85 rfl (by decide) ?_
      refine jv_aload_n (x := 35) (pc' := 88) hE dX8_nextWalk_87 rfl 0 rfl rfl ?_
      refine jv_get (v := .int (σ.1 35 24)) (pc' := 91) hE dX8_nextWalk_88 rfl lF_X8_177 rfl rfl rfl ?_
      refine jv_imul (x := (50 : Int32)) (y := (σ.1 35 24)) (pc' := 92) hE dX8_nextWalk_91 rfl ?_
      refine jv_iload_n (x := v3) (pc' := 93) hE dX8_nextWalk_92 rfl 3 rfl rfl ?_
      refine jv_iadd (x := ((50 : Int32) * (σ.1 35 24))) (y := v3) (pc' := 94) hE dX8_nextWalk_93 rfl ?_
      by_cases c10 : jv_ck (((50 : Int32) * (σ.1 35 24)) + v3) 500 = true
      · rw [if_pos c10] at h
        refine jv_iald (pc' := 95) hE dX8_nextWalk_94 rfl rfl (jv_ck_in c10) ?_
        show jv_V E 95 [some (.ref 35), some (.int a1), some (.int v2), some (.int v3)] [.int (σ.1 49 (((50 : Int32) * (σ.1 35 24)) + v3).toNatClampNeg), .int v2] σ
        refine jv_iload_n (x := a1) (pc' := 96) hE dX8_nextWalk_95 rfl 1 rfl rfl ?_
        obtain ⟨q12, hq12, h⟩ := jv_lt_eq h
        have kq12 : jv_V E 104 [some (.ref 35), some (.int a1), none, some (.int v3)] [.int (jv_b q12), .int v2] σ := by
          refine jv_iadd (x := v2) (y := (jv_b q12)) (pc' := 105) hE dX8_nextWalk_104 rfl ?_
          refine jv_istore_n (x := (v2 + (jv_b q12))) (L' := [some (.ref 35), some (.int a1), some (.int (v2 + (jv_b q12))), some (.int v3)]) (pc' := 106) hE dX8_nextWalk_105 rfl 2 rfl (by decide) rfl rfl ?_
          refine jv_iinc (x := v3) (v := (v3 + (1 : Int32))) (L' := [some (.ref 35), some (.int a1), some (.int (v2 + (jv_b q12))), some (.int (v3 + (1 : Int32)))]) (pc' := 109) hE dX8_nextWalk_106 rfl rfl rfl (by decide) rfl rfl ?_
          refine jv_goto (tgt := 72) hE dX8_nextWalk_109 (by decide) ?_
          exact jv_forget [true, true, true, true] (ih (v2 + (jv_b q12)) (v3 + (1 : Int32)) _ h hk)
        refine jv_icmp_ne (x := (σ.1 49 (((50 : Int32) * (σ.1 35 24)) + v3).toNatClampNeg)) (y := a1) (tgt := 103) (pc' := 99) hE dX8_nextWalk_96 (by decide) rfl (fun c11 => ?_) (fun c11 => ?_)
        · rw [if_neg c11] at hq12
          refine jv_iconst (v := (0 : Int32)) (pc' := 104) hE dX8_nextWalk_103 rfl (by decide) ?_
          cases hq12
          exact jv_forget [true, true, false, true] kq12
        · rw [if_pos c11] at hq12
          refine jv_iconst (v := (1 : Int32)) (pc' := 100) hE dX8_nextWalk_99 rfl (by decide) ?_
          refine jv_goto (tgt := 104) hE dX8_nextWalk_100 (by decide) ?_
          cases hq12
          exact jv_forget [true, true, false, true] kq12
      · rw [if_neg c10] at h; cases h
set_option maxRecDepth 100000 in
set_option maxHeartbeats 4000000 in
theorem ok_X8_nextWalk {G : jv_G} {l : Launch} {σ : jv_S} {r : Int32 × jv_S} (h : f_X8_nextWalk σ = some r) : jv_Cn G l 4 M_X8_nextWalk [.ref 35] σ (some (.int r.1)) r.2 := by
  refine jv_of (L0 := [some (.ref 35), none, none, none]) (by decide +kernel) (Nat.le_of_ble_eq_true rfl) rfl (jv_okI _) (fun E e1 e2 hE hret => ?_)
  unfold f_X8_nextWalk at h
  refine jv_aload_n (x := 35) (pc' := 1) hE dX8_nextWalk_0 rfl 0 rfl rfl ?_
  refine jv_aload_n (x := 35) (pc' := 2) hE dX8_nextWalk_1 rfl 0 rfl rfl ?_
  refine jv_get (v := .int (σ.1 35 23)) (pc' := 5) hE dX8_nextWalk_2 rfl lF_X8_112 rfl rfl rfl ?_
  obtain ⟨q2, hq2, h⟩ := jv_bd_some h
  have kq2 : jv_V E 42 [some (.ref 35), none, none, none] [.int q2, .ref 35] σ := by
    obtain ⟨q6, hq6, h⟩ := jv_lt_eq h
    refine jv_callV (pc' := 45) (o := some (.int (jv_b q6.1))) (σ' := q6.2) hE dX8_nextWalk_42 rfl lV_X8_115 (ok_X8_holds hq6) rfl rfl rfl (by decide) rfl (Nat.le_of_ble_eq_true rfl) ?_
    show jv_V E 45 [some (.ref 35), none, none, none] [.int (jv_b q6.1)] q6.2
    refine jv_if_ne (x := (jv_b q6.1)) (tgt := 50) (pc' := 48) hE dX8_nextWalk_45 (by decide) rfl (fun c7 => ?_) (fun c7 => ?_)
    · have c7 := jv_b1 c7
      rw [if_pos c7] at h
      refine jv_aload_n (x := 35) (pc' := 51) hE dX8_nextWalk_50 rfl 0 rfl rfl ?_
      refine jv_get (v := .ref 49) (pc' := 54) hE dX8_nextWalk_51 rfl lF_X8_54 rfl rfl rfl ?_
      refine jv_bipush (v := (50 : Int32)) (pc' := 56) hE dX8_nextWalk_54 rfl (by decide) ?_
      refine jv_aload_n (x := 35) (pc' := 57) hE dX8_nextWalk_56 rfl 0 rfl rfl ?_
      refine jv_get (v := .int (q6.2.1 35 24)) (pc' := 60) hE dX8_nextWalk_57 rfl lF_X8_177 rfl rfl rfl ?_
      refine jv_imul (x := (50 : Int32)) (y := (q6.2.1 35 24)) (pc' := 61) hE dX8_nextWalk_60 rfl ?_
      refine jv_aload_n (x := 35) (pc' := 62) hE dX8_nextWalk_61 rfl 0 rfl rfl ?_
      refine jv_get (v := .int (q6.2.1 35 26)) (pc' := 65) hE dX8_nextWalk_62 rfl lF_X8_183 rfl rfl rfl ?_
      refine jv_iadd (x := ((50 : Int32) * (q6.2.1 35 24))) (y := (q6.2.1 35 26)) (pc' := 66) hE dX8_nextWalk_65 rfl ?_
      by_cases c8 : jv_ck (((50 : Int32) * (q6.2.1 35 24)) + (q6.2.1 35 26)) 500 = true
      · rw [if_pos c8] at h
        refine jv_iald (pc' := 67) hE dX8_nextWalk_66 rfl rfl (jv_ck_in c8) ?_
        show jv_V E 67 [some (.ref 35), none, none, none] [.int (q6.2.1 49 (((50 : Int32) * (q6.2.1 35 24)) + (q6.2.1 35 26)).toNatClampNeg)] q6.2
        refine jv_istore_n (x := (q6.2.1 49 (((50 : Int32) * (q6.2.1 35 24)) + (q6.2.1 35 26)).toNatClampNeg)) (L' := [some (.ref 35), some (.int (q6.2.1 49 (((50 : Int32) * (q6.2.1 35 24)) + (q6.2.1 35 26)).toNatClampNeg)), none, none]) (pc' := 68) hE dX8_nextWalk_67 rfl 1 rfl (by decide) rfl rfl ?_
        refine jv_iconst (v := (0 : Int32)) (pc' := 69) hE dX8_nextWalk_68 rfl (by decide) ?_
        refine jv_istore_n (x := (0 : Int32)) (L' := [some (.ref 35), some (.int (q6.2.1 49 (((50 : Int32) * (q6.2.1 35 24)) + (q6.2.1 35 26)).toNatClampNeg)), some (.int (0 : Int32)), none]) (pc' := 70) hE dX8_nextWalk_69 rfl 2 rfl (by decide) rfl rfl ?_
        refine jv_iconst (v := (0 : Int32)) (pc' := 71) hE dX8_nextWalk_70 rfl (by decide) ?_
        refine jv_istore_n (x := (0 : Int32)) (L' := [some (.ref 35), some (.int (q6.2.1 49 (((50 : Int32) * (q6.2.1 35 24)) + (q6.2.1 35 26)).toNatClampNeg)), some (.int (0 : Int32)), some (.int (0 : Int32))]) (pc' := 72) hE dX8_nextWalk_71 rfl 3 rfl (by decide) rfl rfl ?_
        obtain ⟨q13, hq13, h⟩ := jv_bd_some h
        refine jv_forget [true, true, true, true] (lp_X8_nextWalk_72 hE jv_fuel (0 : Int32) (0 : Int32) _ hq13 ?_)
        refine jv_aload_n (x := 35) (pc' := 113) hE dX8_nextWalk_112 rfl 0 rfl rfl ?_
        refine jv_iload_n (x := (q6.2.1 49 (((50 : Int32) * (q6.2.1 35 24)) + (q6.2.1 35 26)).toNatClampNeg)) (pc' := 114) hE dX8_nextWalk_113 rfl 1 rfl rfl ?_
        refine jv_iload_n (x := q13.1) (pc' := 115) hE dX8_nextWalk_114 rfl 2 rfl rfl ?_
        obtain ⟨q14, hq14, h⟩ := jv_bd_some h
        refine jv_callV (pc' := 118) (o := none) (σ' := q14) hE dX8_nextWalk_115 rfl lV_X8_200 (ok_X8_laysWalk hq14) rfl rfl rfl (by decide) rfl (Nat.le_of_ble_eq_true rfl) ?_
        show jv_V E 118 [some (.ref 35), some (.int (q6.2.1 49 (((50 : Int32) * (q6.2.1 35 24)) + (q6.2.1 35 26)).toNatClampNeg)), some (.int q13.1), none] [] q14
        refine jv_aload_n (x := 35) (pc' := 119) hE dX8_nextWalk_118 rfl 0 rfl rfl ?_
        refine jv_dup (pc' := 120) hE dX8_nextWalk_119 rfl rfl ?_
        refine jv_get (v := .int (q14.1 35 26)) (pc' := 123) hE dX8_nextWalk_120 rfl lF_X8_183 rfl rfl rfl ?_
        refine jv_iconst (v := (1 : Int32)) (pc' := 124) hE dX8_nextWalk_123 rfl (by decide) ?_
        refine jv_iadd (x := (q14.1 35 26)) (y := (1 : Int32)) (pc' := 125) hE dX8_nextWalk_124 rfl ?_
        refine jv_puti (x := ((q14.1 35 26) + (1 : Int32))) (pc' := 128) hE dX8_nextWalk_125 rfl lP_X8_183 rfl rfl rfl rfl ?_
        refine jv_iload_n (x := (q6.2.1 49 (((50 : Int32) * (q6.2.1 35 24)) + (q6.2.1 35 26)).toNatClampNeg)) (pc' := 129) hE dX8_nextWalk_128 rfl 1 rfl rfl ?_
        cases h
        exact hret _ _ dX8_nextWalk_129
      · rw [if_neg c8] at h; cases h
    · have c7 := jv_b0 c7
      rw [if_neg c7] at h
      refine jv_iconst (v := (0 : Int32)) (pc' := 49) hE dX8_nextWalk_48 rfl (by decide) ?_
      cases h
      exact hret _ _ dX8_nextWalk_49
  refine jv_if_eq (x := (σ.1 35 23)) (tgt := 17) (pc' := 8) hE dX8_nextWalk_5 (by decide) rfl (fun c1 => ?_) (fun c1 => ?_)
  · rw [if_pos c1] at hq2
    refine jv_iconst (v := (1 : Int32)) (pc' := 18) hE dX8_nextWalk_17 rfl (by decide) ?_
    refine jv_goto (tgt := 42) hE dX8_nextWalk_18 (by decide) ?_
    cases hq2
    exact jv_forget [true, true, true, true] kq2
  · rw [if_neg c1] at hq2
    refine jv_aload_n (x := 35) (pc' := 9) hE dX8_nextWalk_8 rfl 0 rfl rfl ?_
    refine jv_get (v := .int (σ.1 35 26)) (pc' := 12) hE dX8_nextWalk_9 rfl lF_X8_183 rfl rfl rfl ?_
    refine jv_bipush (v := (50 : Int32)) (pc' := 14) hE dX8_nextWalk_12 rfl (by decide) ?_
    refine jv_icmp_ne (x := (σ.1 35 26)) (y := (50 : Int32)) (tgt := 21) (pc' := 17) hE dX8_nextWalk_14 (by decide) rfl (fun c3 => ?_) (fun c3 => ?_)
    · rw [if_neg c3] at hq2
      refine jv_aload_n (x := 35) (pc' := 22) hE dX8_nextWalk_21 rfl 0 rfl rfl ?_
      refine jv_get (v := .int (σ.1 35 26)) (pc' := 25) hE dX8_nextWalk_22 rfl lF_X8_183 rfl rfl rfl ?_
      refine jv_aload_n (x := 35) (pc' := 26) hE dX8_nextWalk_25 rfl 0 rfl rfl ?_
      refine jv_get (v := .ref 50) (pc' := 29) hE dX8_nextWalk_26 rfl lF_X8_57 rfl rfl rfl ?_
      refine jv_aload_n (x := 35) (pc' := 30) hE dX8_nextWalk_29 rfl 0 rfl rfl ?_
      refine jv_get (v := .int (σ.1 35 24)) (pc' := 33) hE dX8_nextWalk_30 rfl lF_X8_177 rfl rfl rfl ?_
      by_cases c4 : jv_ck (σ.1 35 24) 10 = true
      · rw [if_pos c4] at hq2
        refine jv_iald (pc' := 34) hE dX8_nextWalk_33 rfl rfl (jv_ck_in c4) ?_
        show jv_V E 34 [some (.ref 35), none, none, none] [.int (σ.1 50 (σ.1 35 24).toNatClampNeg), .int (σ.1 35 26), .ref 35] σ
        refine jv_icmp_ne (x := (σ.1 35 26)) (y := (σ.1 50 (σ.1 35 24).toNatClampNeg)) (tgt := 41) (pc' := 37) hE dX8_nextWalk_34 (by decide) rfl (fun c5 => ?_) (fun c5 => ?_)
        · rw [if_neg c5] at hq2
          refine jv_iconst (v := (0 : Int32)) (pc' := 42) hE dX8_nextWalk_41 rfl (by decide) ?_
          cases hq2
          exact jv_forget [true, true, true, true] kq2
        · rw [if_pos c5] at hq2
          refine jv_iconst (v := (2 : Int32)) (pc' := 38) hE dX8_nextWalk_37 rfl (by decide) ?_
          refine jv_goto (tgt := 42) hE dX8_nextWalk_38 (by decide) ?_
          cases hq2
          exact jv_forget [true, true, true, true] kq2
      · rw [if_neg c4] at hq2; cases hq2
    · rw [if_pos c3] at hq2
      refine jv_iconst (v := (1 : Int32)) (pc' := 18) hE dX8_nextWalk_17 rfl (by decide) ?_
      refine jv_goto (tgt := 42) hE dX8_nextWalk_18 (by decide) ?_
      cases hq2
      exact jv_forget [true, true, true, true] kq2
noncomputable def f_X8_walksDrawn (σ : jv_S) : Int32 × jv_S := jv_lt (if (σ.1 35 23) = 0 then (true) else (false)) (fun q2 => jv_lt (f_X8_holds σ (jv_b q2)) (fun q3 => jv_lt (if q3.1 = true then ((q3.2.1 35 26)) else ((0 : Int32))) (fun q5 => (q5, q3.2))))
set_option maxRecDepth 100000 in
set_option maxHeartbeats 4000000 in
theorem ok_X8_walksDrawn {G : jv_G} {l : Launch} {σ : jv_S} {r : Int32 × jv_S} (h : f_X8_walksDrawn σ = r) : jv_Cn G l 2 M_X8_walksDrawn [.ref 35] σ (some (.int r.1)) r.2 := by
  refine jv_of (L0 := [some (.ref 35)]) (by decide +kernel) (Nat.le_of_ble_eq_true rfl) rfl (jv_okI _) (fun E e1 e2 hE hret => ?_)
  unfold f_X8_walksDrawn at h
  refine jv_aload_n (x := 35) (pc' := 1) hE dX8_walksDrawn_0 rfl 0 rfl rfl ?_
  refine jv_aload_n (x := 35) (pc' := 2) hE dX8_walksDrawn_1 rfl 0 rfl rfl ?_
  refine jv_get (v := .int (σ.1 35 23)) (pc' := 5) hE dX8_walksDrawn_2 rfl lF_X8_112 rfl rfl rfl ?_
  obtain ⟨q2, hq2, h⟩ := jv_lt_eq h
  have kq2 : jv_V E 13 [some (.ref 35)] [.int (jv_b q2), .ref 35] σ := by
    obtain ⟨q3, hq3, h⟩ := jv_lt_eq h
    refine jv_callV (pc' := 16) (o := some (.int (jv_b q3.1))) (σ' := q3.2) hE dX8_walksDrawn_13 rfl lV_X8_115 (ok_X8_holds hq3) rfl rfl rfl (by decide) rfl (Nat.le_of_ble_eq_true rfl) ?_
    show jv_V E 16 [some (.ref 35)] [.int (jv_b q3.1)] q3.2
    obtain ⟨q5, hq5, h⟩ := jv_lt_eq h
    have kq5 : jv_V E 27 [none] [.int q5] q3.2 := by
      cases h
      exact hret _ _ dX8_walksDrawn_27
    refine jv_if_eq (x := (jv_b q3.1)) (tgt := 26) (pc' := 19) hE dX8_walksDrawn_16 (by decide) rfl (fun c4 => ?_) (fun c4 => ?_)
    · have c4 := jv_b0 c4
      rw [if_neg c4] at hq5
      refine jv_iconst (v := (0 : Int32)) (pc' := 27) hE dX8_walksDrawn_26 rfl (by decide) ?_
      cases hq5
      exact jv_forget [false] kq5
    · have c4 := jv_b1 c4
      rw [if_pos c4] at hq5
      refine jv_aload_n (x := 35) (pc' := 20) hE dX8_walksDrawn_19 rfl 0 rfl rfl ?_
      refine jv_get (v := .int (q3.2.1 35 26)) (pc' := 23) hE dX8_walksDrawn_20 rfl lF_X8_183 rfl rfl rfl ?_
      refine jv_goto (tgt := 27) hE dX8_walksDrawn_23 (by decide) ?_
      cases hq5
      exact jv_forget [false] kq5
  refine jv_if_eq (x := (σ.1 35 23)) (tgt := 12) (pc' := 8) hE dX8_walksDrawn_5 (by decide) rfl (fun c1 => ?_) (fun c1 => ?_)
  · rw [if_pos c1] at hq2
    refine jv_iconst (v := (1 : Int32)) (pc' := 13) hE dX8_walksDrawn_12 rfl (by decide) ?_
    cases hq2
    exact jv_forget [true] kq2
  · rw [if_neg c1] at hq2
    refine jv_iconst (v := (0 : Int32)) (pc' := 9) hE dX8_walksDrawn_8 rfl (by decide) ?_
    refine jv_goto (tgt := 13) hE dX8_walksDrawn_9 (by decide) ?_
    cases hq2
    exact jv_forget [true] kq2
noncomputable def f_X8_walkEdges (σ : jv_S) : Int32 × jv_S := jv_lt (if (σ.1 35 23) = 0 then ((1 : Int32)) else (if (σ.1 35 26) = 0 then ((2 : Int32)) else ((0 : Int32)))) (fun q2 => jv_lt (f_X8_holds σ q2) (fun q4 => jv_lt (if q4.1 = true then ((q4.2.1 35 27)) else ((0 : Int32))) (fun q6 => (q6, q4.2))))
set_option maxRecDepth 100000 in
set_option maxHeartbeats 4000000 in
theorem ok_X8_walkEdges {G : jv_G} {l : Launch} {σ : jv_S} {r : Int32 × jv_S} (h : f_X8_walkEdges σ = r) : jv_Cn G l 2 M_X8_walkEdges [.ref 35] σ (some (.int r.1)) r.2 := by
  refine jv_of (L0 := [some (.ref 35)]) (by decide +kernel) (Nat.le_of_ble_eq_true rfl) rfl (jv_okI _) (fun E e1 e2 hE hret => ?_)
  unfold f_X8_walkEdges at h
  refine jv_aload_n (x := 35) (pc' := 1) hE dX8_walkEdges_0 rfl 0 rfl rfl ?_
  refine jv_aload_n (x := 35) (pc' := 2) hE dX8_walkEdges_1 rfl 0 rfl rfl ?_
  refine jv_get (v := .int (σ.1 35 23)) (pc' := 5) hE dX8_walkEdges_2 rfl lF_X8_112 rfl rfl rfl ?_
  obtain ⟨q2, hq2, h⟩ := jv_lt_eq h
  have kq2 : jv_V E 24 [some (.ref 35)] [.int q2, .ref 35] σ := by
    obtain ⟨q4, hq4, h⟩ := jv_lt_eq h
    refine jv_callV (pc' := 27) (o := some (.int (jv_b q4.1))) (σ' := q4.2) hE dX8_walkEdges_24 rfl lV_X8_115 (ok_X8_holds hq4) rfl rfl rfl (by decide) rfl (Nat.le_of_ble_eq_true rfl) ?_
    show jv_V E 27 [some (.ref 35)] [.int (jv_b q4.1)] q4.2
    obtain ⟨q6, hq6, h⟩ := jv_lt_eq h
    have kq6 : jv_V E 38 [none] [.int q6] q4.2 := by
      cases h
      exact hret _ _ dX8_walkEdges_38
    refine jv_if_eq (x := (jv_b q4.1)) (tgt := 37) (pc' := 30) hE dX8_walkEdges_27 (by decide) rfl (fun c5 => ?_) (fun c5 => ?_)
    · have c5 := jv_b0 c5
      rw [if_neg c5] at hq6
      refine jv_iconst (v := (0 : Int32)) (pc' := 38) hE dX8_walkEdges_37 rfl (by decide) ?_
      cases hq6
      exact jv_forget [false] kq6
    · have c5 := jv_b1 c5
      rw [if_pos c5] at hq6
      refine jv_aload_n (x := 35) (pc' := 31) hE dX8_walkEdges_30 rfl 0 rfl rfl ?_
      refine jv_get (v := .int (q4.2.1 35 27)) (pc' := 34) hE dX8_walkEdges_31 rfl lF_X8_186 rfl rfl rfl ?_
      refine jv_goto (tgt := 38) hE dX8_walkEdges_34 (by decide) ?_
      cases hq6
      exact jv_forget [false] kq6
  refine jv_if_ne (x := (σ.1 35 23)) (tgt := 12) (pc' := 8) hE dX8_walkEdges_5 (by decide) rfl (fun c1 => ?_) (fun c1 => ?_)
  · rw [if_neg c1] at hq2
    refine jv_aload_n (x := 35) (pc' := 13) hE dX8_walkEdges_12 rfl 0 rfl rfl ?_
    refine jv_get (v := .int (σ.1 35 26)) (pc' := 16) hE dX8_walkEdges_13 rfl lF_X8_183 rfl rfl rfl ?_
    refine jv_if_ne (x := (σ.1 35 26)) (tgt := 23) (pc' := 19) hE dX8_walkEdges_16 (by decide) rfl (fun c3 => ?_) (fun c3 => ?_)
    · rw [if_neg c3] at hq2
      refine jv_iconst (v := (0 : Int32)) (pc' := 24) hE dX8_walkEdges_23 rfl (by decide) ?_
      cases hq2
      exact jv_forget [true] kq2
    · rw [if_pos c3] at hq2
      refine jv_iconst (v := (2 : Int32)) (pc' := 20) hE dX8_walkEdges_19 rfl (by decide) ?_
      refine jv_goto (tgt := 24) hE dX8_walkEdges_20 (by decide) ?_
      cases hq2
      exact jv_forget [true] kq2
  · rw [if_pos c1] at hq2
    refine jv_iconst (v := (1 : Int32)) (pc' := 9) hE dX8_walkEdges_8 rfl (by decide) ?_
    refine jv_goto (tgt := 24) hE dX8_walkEdges_9 (by decide) ?_
    cases hq2
    exact jv_forget [true] kq2
noncomputable def f_X8_walkEdge (σ : jv_S) (p1 : Int32) : Option (Int32 × jv_S) := jv_lt (if (σ.1 35 23) = 0 then ((1 : Int32)) else (if (f_X8_in σ p1 (0 : Int32) ((σ.1 35 27) - (1 : Int32))) = true then ((0 : Int32)) else ((2 : Int32)))) (fun q2 => jv_lt (f_X8_holds σ q2) (fun q4 => jv_bd (if q4.1 = true then (if jv_ck p1 512 = true then (some (q4.2.1 48 p1.toNatClampNeg)) else none) else (some (0 : Int32))) (fun q6 => some (q6, q4.2))))
set_option maxRecDepth 100000 in
set_option maxHeartbeats 4000000 in
theorem ok_X8_walkEdge {G : jv_G} {l : Launch} {σ : jv_S} {p1 : Int32} {r : Int32 × jv_S} (h : f_X8_walkEdge σ p1 = some r) : jv_Cn G l 2 M_X8_walkEdge [.ref 35, .int p1] σ (some (.int r.1)) r.2 := by
  refine jv_of (L0 := [some (.ref 35), some (.int p1)]) (by decide +kernel) (Nat.le_of_ble_eq_true rfl) rfl (jv_okI _) (fun E e1 e2 hE hret => ?_)
  unfold f_X8_walkEdge at h
  refine jv_aload_n (x := 35) (pc' := 1) hE dX8_walkEdge_0 rfl 0 rfl rfl ?_
  refine jv_aload_n (x := 35) (pc' := 2) hE dX8_walkEdge_1 rfl 0 rfl rfl ?_
  refine jv_get (v := .int (σ.1 35 23)) (pc' := 5) hE dX8_walkEdge_2 rfl lF_X8_112 rfl rfl rfl ?_
  obtain ⟨q2, hq2, h⟩ := jv_lt_eq h
  have kq2 : jv_V E 31 [some (.ref 35), some (.int p1)] [.int q2, .ref 35] σ := by
    obtain ⟨q4, hq4, h⟩ := jv_lt_eq h
    refine jv_callV (pc' := 34) (o := some (.int (jv_b q4.1))) (σ' := q4.2) hE dX8_walkEdge_31 rfl lV_X8_115 (ok_X8_holds hq4) rfl rfl rfl (by decide) rfl (Nat.le_of_ble_eq_true rfl) ?_
    show jv_V E 34 [some (.ref 35), some (.int p1)] [.int (jv_b q4.1)] q4.2
    obtain ⟨q6, hq6, h⟩ := jv_bd_some h
    have kq6 : jv_V E 47 [none, none] [.int q6] q4.2 := by
      cases h
      exact hret _ _ dX8_walkEdge_47
    refine jv_if_eq (x := (jv_b q4.1)) (tgt := 46) (pc' := 37) hE dX8_walkEdge_34 (by decide) rfl (fun c5 => ?_) (fun c5 => ?_)
    · have c5 := jv_b0 c5
      rw [if_neg c5] at hq6
      refine jv_iconst (v := (0 : Int32)) (pc' := 47) hE dX8_walkEdge_46 rfl (by decide) ?_
      cases hq6
      exact jv_forget [false, false] kq6
    · have c5 := jv_b1 c5
      rw [if_pos c5] at hq6
      refine jv_aload_n (x := 35) (pc' := 38) hE dX8_walkEdge_37 rfl 0 rfl rfl ?_
      refine jv_get (v := .ref 48) (pc' := 41) hE dX8_walkEdge_38 rfl lF_X8_51 rfl rfl rfl ?_
      refine jv_iload_n (x := p1) (pc' := 42) hE dX8_walkEdge_41 rfl 1 rfl rfl ?_
      by_cases c7 : jv_ck p1 512 = true
      · rw [if_pos c7] at hq6
        refine jv_iald (pc' := 43) hE dX8_walkEdge_42 rfl rfl (jv_ck_in c7) ?_
        show jv_V E 43 [some (.ref 35), some (.int p1)] [.int (q4.2.1 48 p1.toNatClampNeg)] q4.2
        refine jv_goto (tgt := 47) hE dX8_walkEdge_43 (by decide) ?_
        cases hq6
        exact jv_forget [false, false] kq6
      · rw [if_neg c7] at hq6; cases hq6
  refine jv_if_ne (x := (σ.1 35 23)) (tgt := 12) (pc' := 8) hE dX8_walkEdge_5 (by decide) rfl (fun c1 => ?_) (fun c1 => ?_)
  · rw [if_neg c1] at hq2
    refine jv_iload_n (x := p1) (pc' := 13) hE dX8_walkEdge_12 rfl 1 rfl rfl ?_
    refine jv_iconst (v := (0 : Int32)) (pc' := 14) hE dX8_walkEdge_13 rfl (by decide) ?_
    refine jv_aload_n (x := 35) (pc' := 15) hE dX8_walkEdge_14 rfl 0 rfl rfl ?_
    refine jv_get (v := .int (σ.1 35 27)) (pc' := 18) hE dX8_walkEdge_15 rfl lF_X8_186 rfl rfl rfl ?_
    refine jv_iconst (v := (1 : Int32)) (pc' := 19) hE dX8_walkEdge_18 rfl (by decide) ?_
    refine jv_isub (x := (σ.1 35 27)) (y := (1 : Int32)) (pc' := 20) hE dX8_walkEdge_19 rfl ?_
    refine jv_callS (pc' := 23) (o := some (.int (jv_b (f_X8_in σ p1 (0 : Int32) ((σ.1 35 27) - (1 : Int32)))))) (σ' := σ) hE dX8_walkEdge_20 rfl lS_X8_93 (ok_X8_in rfl) rfl (by decide) rfl (Nat.le_of_ble_eq_true rfl) ?_
    show jv_V E 23 [some (.ref 35), some (.int p1)] [.int (jv_b (f_X8_in σ p1 (0 : Int32) ((σ.1 35 27) - (1 : Int32)))), .ref 35] σ
    refine jv_if_eq (x := (jv_b (f_X8_in σ p1 (0 : Int32) ((σ.1 35 27) - (1 : Int32))))) (tgt := 30) (pc' := 26) hE dX8_walkEdge_23 (by decide) rfl (fun c3 => ?_) (fun c3 => ?_)
    · have c3 := jv_b0 c3
      rw [if_neg c3] at hq2
      refine jv_iconst (v := (2 : Int32)) (pc' := 31) hE dX8_walkEdge_30 rfl (by decide) ?_
      cases hq2
      exact jv_forget [true, true] kq2
    · have c3 := jv_b1 c3
      rw [if_pos c3] at hq2
      refine jv_iconst (v := (0 : Int32)) (pc' := 27) hE dX8_walkEdge_26 rfl (by decide) ?_
      refine jv_goto (tgt := 31) hE dX8_walkEdge_27 (by decide) ?_
      cases hq2
      exact jv_forget [true, true] kq2
  · rw [if_pos c1] at hq2
    refine jv_iconst (v := (1 : Int32)) (pc' := 9) hE dX8_walkEdge_8 rfl (by decide) ?_
    refine jv_goto (tgt := 31) hE dX8_walkEdge_9 (by decide) ?_
    cases hq2
    exact jv_forget [true, true] kq2
noncomputable def f_X8_arc (σ : jv_S) (p1 : Int32) (p2 : Int32) (p3 : Int32) : Option (jv_S) := if jv_ck (σ.1 35 38) 68 = true then (if jv_ck (σ.1 35 38) 68 = true then (if jv_ck (σ.1 35 38) 68 = true then (if jv_ck (σ.1 35 38) 68 = true then (if jv_ck ((σ.1 35 38) + (1 : Int32)) 68 = true then (if jv_ck ((σ.1 35 38) + (1 : Int32)) 68 = true then (if jv_ck ((σ.1 35 38) + (1 : Int32)) 68 = true then (if jv_ck ((σ.1 35 38) + (1 : Int32)) 68 = true then (some (jv_si (jv_si (jv_si (jv_si (jv_si (jv_si (jv_si (jv_si (jv_si σ 53 (σ.1 35 38).toNatClampNeg p1) 54 (σ.1 35 38).toNatClampNeg p2) 55 (σ.1 35 38).toNatClampNeg (1 : Int32)) 56 (σ.1 35 38).toNatClampNeg p3) 53 ((σ.1 35 38) + (1 : Int32)).toNatClampNeg p2) 54 ((σ.1 35 38) + (1 : Int32)).toNatClampNeg p1) 55 ((σ.1 35 38) + (1 : Int32)).toNatClampNeg (0 : Int32)) 56 ((σ.1 35 38) + (1 : Int32)).toNatClampNeg (-p3)) 35 38 ((σ.1 35 38) + (2 : Int32)))) else none) else none) else none) else none) else none) else none) else none) else none
set_option maxRecDepth 100000 in
set_option maxHeartbeats 4000000 in
theorem ok_X8_arc {G : jv_G} {l : Launch} {σ : jv_S} {p1 : Int32} {p2 : Int32} {p3 : Int32} {r : jv_S} (h : f_X8_arc σ p1 p2 p3 = some r) : jv_Cn G l 1 M_X8_arc [.ref 35, .int p1, .int p2, .int p3] σ (none) r := by
  refine jv_of (L0 := [some (.ref 35), some (.int p1), some (.int p2), some (.int p3)]) (by decide +kernel) (Nat.le_of_ble_eq_true rfl) rfl jv_okV (fun E e1 e2 hE hret => ?_)
  unfold f_X8_arc at h
  refine jv_aload_n (x := 35) (pc' := 1) hE dX8_arc_0 rfl 0 rfl rfl ?_
  refine jv_get (v := .ref 53) (pc' := 4) hE dX8_arc_1 rfl lF_X8_66 rfl rfl rfl ?_
  refine jv_aload_n (x := 35) (pc' := 5) hE dX8_arc_4 rfl 0 rfl rfl ?_
  refine jv_get (v := .int (σ.1 35 38)) (pc' := 8) hE dX8_arc_5 rfl lF_X8_203 rfl rfl rfl ?_
  refine jv_iload_n (x := p1) (pc' := 9) hE dX8_arc_8 rfl 1 rfl rfl ?_
  by_cases c1 : jv_ck (σ.1 35 38) 68 = true
  · rw [if_pos c1] at h
    refine jv_iast (pc' := 10) hE dX8_arc_9 rfl rfl (jv_ck_in c1) ?_
    refine jv_aload_n (x := 35) (pc' := 11) hE dX8_arc_10 rfl 0 rfl rfl ?_
    refine jv_get (v := .ref 54) (pc' := 14) hE dX8_arc_11 rfl lF_X8_69 rfl rfl rfl ?_
    refine jv_aload_n (x := 35) (pc' := 15) hE dX8_arc_14 rfl 0 rfl rfl ?_
    refine jv_get (v := .int (σ.1 35 38)) (pc' := 18) hE dX8_arc_15 rfl lF_X8_203 rfl rfl rfl ?_
    refine jv_iload_n (x := p2) (pc' := 19) hE dX8_arc_18 rfl 2 rfl rfl ?_
    by_cases c2 : jv_ck (σ.1 35 38) 68 = true
    · rw [if_pos c2] at h
      refine jv_iast (pc' := 20) hE dX8_arc_19 rfl rfl (jv_ck_in c2) ?_
      refine jv_aload_n (x := 35) (pc' := 21) hE dX8_arc_20 rfl 0 rfl rfl ?_
      refine jv_get (v := .ref 55) (pc' := 24) hE dX8_arc_21 rfl lF_X8_72 rfl rfl rfl ?_
      refine jv_aload_n (x := 35) (pc' := 25) hE dX8_arc_24 rfl 0 rfl rfl ?_
      refine jv_get (v := .int (σ.1 35 38)) (pc' := 28) hE dX8_arc_25 rfl lF_X8_203 rfl rfl rfl ?_
      refine jv_iconst (v := (1 : Int32)) (pc' := 29) hE dX8_arc_28 rfl (by decide) ?_
      by_cases c3 : jv_ck (σ.1 35 38) 68 = true
      · rw [if_pos c3] at h
        refine jv_iast (pc' := 30) hE dX8_arc_29 rfl rfl (jv_ck_in c3) ?_
        refine jv_aload_n (x := 35) (pc' := 31) hE dX8_arc_30 rfl 0 rfl rfl ?_
        refine jv_get (v := .ref 56) (pc' := 34) hE dX8_arc_31 rfl lF_X8_75 rfl rfl rfl ?_
        refine jv_aload_n (x := 35) (pc' := 35) hE dX8_arc_34 rfl 0 rfl rfl ?_
        refine jv_get (v := .int (σ.1 35 38)) (pc' := 38) hE dX8_arc_35 rfl lF_X8_203 rfl rfl rfl ?_
        refine jv_iload_n (x := p3) (pc' := 39) hE dX8_arc_38 rfl 3 rfl rfl ?_
        by_cases c4 : jv_ck (σ.1 35 38) 68 = true
        · rw [if_pos c4] at h
          refine jv_iast (pc' := 40) hE dX8_arc_39 rfl rfl (jv_ck_in c4) ?_
          refine jv_aload_n (x := 35) (pc' := 41) hE dX8_arc_40 rfl 0 rfl rfl ?_
          refine jv_get (v := .ref 53) (pc' := 44) hE dX8_arc_41 rfl lF_X8_66 rfl rfl rfl ?_
          refine jv_aload_n (x := 35) (pc' := 45) hE dX8_arc_44 rfl 0 rfl rfl ?_
          refine jv_get (v := .int (σ.1 35 38)) (pc' := 48) hE dX8_arc_45 rfl lF_X8_203 rfl rfl rfl ?_
          refine jv_iconst (v := (1 : Int32)) (pc' := 49) hE dX8_arc_48 rfl (by decide) ?_
          refine jv_iadd (x := (σ.1 35 38)) (y := (1 : Int32)) (pc' := 50) hE dX8_arc_49 rfl ?_
          refine jv_iload_n (x := p2) (pc' := 51) hE dX8_arc_50 rfl 2 rfl rfl ?_
          by_cases c5 : jv_ck ((σ.1 35 38) + (1 : Int32)) 68 = true
          · rw [if_pos c5] at h
            refine jv_iast (pc' := 52) hE dX8_arc_51 rfl rfl (jv_ck_in c5) ?_
            refine jv_aload_n (x := 35) (pc' := 53) hE dX8_arc_52 rfl 0 rfl rfl ?_
            refine jv_get (v := .ref 54) (pc' := 56) hE dX8_arc_53 rfl lF_X8_69 rfl rfl rfl ?_
            refine jv_aload_n (x := 35) (pc' := 57) hE dX8_arc_56 rfl 0 rfl rfl ?_
            refine jv_get (v := .int (σ.1 35 38)) (pc' := 60) hE dX8_arc_57 rfl lF_X8_203 rfl rfl rfl ?_
            refine jv_iconst (v := (1 : Int32)) (pc' := 61) hE dX8_arc_60 rfl (by decide) ?_
            refine jv_iadd (x := (σ.1 35 38)) (y := (1 : Int32)) (pc' := 62) hE dX8_arc_61 rfl ?_
            refine jv_iload_n (x := p1) (pc' := 63) hE dX8_arc_62 rfl 1 rfl rfl ?_
            by_cases c6 : jv_ck ((σ.1 35 38) + (1 : Int32)) 68 = true
            · rw [if_pos c6] at h
              refine jv_iast (pc' := 64) hE dX8_arc_63 rfl rfl (jv_ck_in c6) ?_
              refine jv_aload_n (x := 35) (pc' := 65) hE dX8_arc_64 rfl 0 rfl rfl ?_
              refine jv_get (v := .ref 55) (pc' := 68) hE dX8_arc_65 rfl lF_X8_72 rfl rfl rfl ?_
              refine jv_aload_n (x := 35) (pc' := 69) hE dX8_arc_68 rfl 0 rfl rfl ?_
              refine jv_get (v := .int (σ.1 35 38)) (pc' := 72) hE dX8_arc_69 rfl lF_X8_203 rfl rfl rfl ?_
              refine jv_iconst (v := (1 : Int32)) (pc' := 73) hE dX8_arc_72 rfl (by decide) ?_
              refine jv_iadd (x := (σ.1 35 38)) (y := (1 : Int32)) (pc' := 74) hE dX8_arc_73 rfl ?_
              refine jv_iconst (v := (0 : Int32)) (pc' := 75) hE dX8_arc_74 rfl (by decide) ?_
              by_cases c7 : jv_ck ((σ.1 35 38) + (1 : Int32)) 68 = true
              · rw [if_pos c7] at h
                refine jv_iast (pc' := 76) hE dX8_arc_75 rfl rfl (jv_ck_in c7) ?_
                refine jv_aload_n (x := 35) (pc' := 77) hE dX8_arc_76 rfl 0 rfl rfl ?_
                refine jv_get (v := .ref 56) (pc' := 80) hE dX8_arc_77 rfl lF_X8_75 rfl rfl rfl ?_
                refine jv_aload_n (x := 35) (pc' := 81) hE dX8_arc_80 rfl 0 rfl rfl ?_
                refine jv_get (v := .int (σ.1 35 38)) (pc' := 84) hE dX8_arc_81 rfl lF_X8_203 rfl rfl rfl ?_
                refine jv_iconst (v := (1 : Int32)) (pc' := 85) hE dX8_arc_84 rfl (by decide) ?_
                refine jv_iadd (x := (σ.1 35 38)) (y := (1 : Int32)) (pc' := 86) hE dX8_arc_85 rfl ?_
                refine jv_iload_n (x := p3) (pc' := 87) hE dX8_arc_86 rfl 3 rfl rfl ?_
                refine jv_ineg (x := p3) (pc' := 88) hE dX8_arc_87 rfl ?_
                by_cases c8 : jv_ck ((σ.1 35 38) + (1 : Int32)) 68 = true
                · rw [if_pos c8] at h
                  refine jv_iast (pc' := 89) hE dX8_arc_88 rfl rfl (jv_ck_in c8) ?_
                  refine jv_aload_n (x := 35) (pc' := 90) hE dX8_arc_89 rfl 0 rfl rfl ?_
                  refine jv_dup (pc' := 91) hE dX8_arc_90 rfl rfl ?_
                  refine jv_get (v := .int (σ.1 35 38)) (pc' := 94) hE dX8_arc_91 rfl lF_X8_203 rfl rfl rfl ?_
                  refine jv_iconst (v := (2 : Int32)) (pc' := 95) hE dX8_arc_94 rfl (by decide) ?_
                  refine jv_iadd (x := (σ.1 35 38)) (y := (2 : Int32)) (pc' := 96) hE dX8_arc_95 rfl ?_
                  refine jv_puti (x := ((σ.1 35 38) + (2 : Int32))) (pc' := 99) hE dX8_arc_96 rfl lP_X8_203 rfl rfl rfl rfl ?_
                  cases h
                  exact hret _ _ dX8_arc_99
                · rw [if_neg c8] at h; cases h
              · rw [if_neg c7] at h; cases h
            · rw [if_neg c6] at h; cases h
          · rw [if_neg c5] at h; cases h
        · rw [if_neg c4] at h; cases h
      · rw [if_neg c3] at h; cases h
    · rw [if_neg c2] at h; cases h
  · rw [if_neg c1] at h; cases h
noncomputable def f_X8_laysArcs_lp8 (a1 : Int32) (a2 : Int32) (a3 : Int32) : Nat → Int32 → jv_S → Option (Int32 × jv_S)
  | 0, _, _ => none
  | n + 1, v4, σ => if (σ.1 35 1) ≤ v4 then (some (v4, σ)) else (jv_bd (f_X8_arc σ v4 ((10 : Int32) + v4) (0 : Int32)) (fun q2 => jv_lt (if a3 = 0 then ((24 : Int32)) else (if v4 = a1 then ((24 : Int32)) else (if v4 = a2 then ((24 : Int32)) else ((1 : Int32))))) (fun q4 => if jv_ck ((q2.1 35 38) - (2 : Int32)) 68 = true then (f_X8_laysArcs_lp8 a1 a2 a3 n (v4 + (1 : Int32)) (jv_si q2 55 ((q2.1 35 38) - (2 : Int32)).toNatClampNeg q4)) else none)))
noncomputable def f_X8_laysArcs_lp71 : Nat → Int32 → jv_S → Option (Int32 × jv_S)
  | 0, _, _ => none
  | n + 1, v4, σ => if (σ.1 35 2) ≤ v4 then (some (v4, σ)) else (jv_bd (f_X8_isUsable σ v4) (fun q10 => jv_bd (if q10 = true then (if jv_ck v4 24 = true then (if jv_ck v4 24 = true then (if jv_ck v4 24 = true then (jv_bd (f_X8_arc σ ((10 : Int32) + (σ.1 36 v4.toNatClampNeg)) (σ.1 37 v4.toNatClampNeg) (σ.1 38 v4.toNatClampNeg)) (fun q16 => some q16)) else none) else none) else none) else (some σ)) (fun q12 => f_X8_laysArcs_lp71 n (v4 + (1 : Int32)) q12)))
noncomputable def f_X8_laysArcs (σ : jv_S) (p1 : Int32) (p2 : Int32) (p3 : Int32) : Option (jv_S) := jv_bd (f_X8_laysArcs_lp8 p1 p2 p3 jv_fuel (0 : Int32) (jv_si σ 35 38 (0 : Int32))) (fun q8 => jv_bd (f_X8_laysArcs_lp71 jv_fuel (0 : Int32) q8.2) (fun q17 => some q17.2))
set_option maxRecDepth 100000 in
set_option maxHeartbeats 4000000 in
theorem lp_X8_laysArcs_8 {a1 : Int32} {a2 : Int32} {a3 : Int32} {E : jv_E} (hE : jv_Cx E RX8 cX8_laysArcs 5 2) : ∀ (n : Nat) (v4 : Int32) (σ : jv_S) (q : Int32 × jv_S), f_X8_laysArcs_lp8 a1 a2 a3 n v4 σ = some q → (jv_V E 68 [some (.ref 35), none, none, none, none] [] q.2) → jv_V E 8 [some (.ref 35), some (.int a1), some (.int a2), some (.int a3), some (.int v4)] [] σ := by
  intro n
  induction n with
  | zero =>
    intro v4 σ q h
    rw [f_X8_laysArcs_lp8] at h
    cases h
  | succ n ih =>
    intro v4 σ q h hk
    rw [f_X8_laysArcs_lp8] at h
    refine jv_iload (x := v4) (pc' := 10) hE dX8_laysArcs_8 rfl rfl ?_
    refine jv_aload_n (x := 35) (pc' := 11) hE dX8_laysArcs_10 rfl 0 rfl rfl ?_
    refine jv_get (v := .int (σ.1 35 1)) (pc' := 14) hE dX8_laysArcs_11 rfl lF_X8_7 rfl rfl rfl ?_
    refine jv_icmp_ge (x := v4) (y := (σ.1 35 1)) (tgt := 68) (pc' := 17) hE dX8_laysArcs_14 (by decide) rfl (fun c1 => ?_) (fun c1 => ?_)
    · rw [if_pos c1] at h
      cases h
      exact jv_forget [true, false, false, false, false] hk
    · rw [if_neg c1] at h
      refine jv_aload_n (x := 35) (pc' := 18) hE dX8_laysArcs_17 rfl 0 rfl rfl ?_
      refine jv_iload (x := v4) (pc' := 20) hE dX8_laysArcs_18 rfl rfl ?_
      refine jv_bipush (v := (10 : Int32)) (pc' := 22) hE dX8_laysArcs_20 rfl (by decide) ?_
      refine jv_iload (x := v4) (pc' := 24) hE dX8_laysArcs_22 rfl rfl ?_
      refine jv_iadd (x := (10 : Int32)) (y := v4) (pc' := 25) hE dX8_laysArcs_24 rfl ?_
      refine jv_iconst (v := (0 : Int32)) (pc' := 26) hE dX8_laysArcs_25 rfl (by decide) ?_
      obtain ⟨q2, hq2, h⟩ := jv_bd_some h
      refine jv_callV (pc' := 29) (o := none) (σ' := q2) hE dX8_laysArcs_26 rfl lV_X8_206 (ok_X8_arc hq2) rfl rfl rfl (by decide) rfl (Nat.le_of_ble_eq_true rfl) ?_
      show jv_V E 29 [some (.ref 35), some (.int a1), some (.int a2), some (.int a3), some (.int v4)] [] q2
      refine jv_aload_n (x := 35) (pc' := 30) hE dX8_laysArcs_29 rfl 0 rfl rfl ?_
      refine jv_get (v := .ref 55) (pc' := 33) hE dX8_laysArcs_30 rfl lF_X8_72 rfl rfl rfl ?_
      refine jv_aload_n (x := 35) (pc' := 34) hE dX8_laysArcs_33 rfl 0 rfl rfl ?_
      refine jv_get (v := .int (q2.1 35 38)) (pc' := 37) hE dX8_laysArcs_34 rfl lF_X8_203 rfl rfl rfl ?_
      refine jv_iconst (v := (2 : Int32)) (pc' := 38) hE dX8_laysArcs_37 rfl (by decide) ?_
      refine jv_isub (x := (q2.1 35 38)) (y := (2 : Int32)) (pc' := 39) hE dX8_laysArcs_38 rfl ?_
      refine jv_iload_n (x := a3) (pc' := 40) hE dX8_laysArcs_39 rfl 3 rfl rfl ?_
      obtain ⟨q4, hq4, h⟩ := jv_lt_eq h
      have kq4 : jv_V E 61 [some (.ref 35), some (.int a1), some (.int a2), some (.int a3), some (.int v4)] [.int q4, .int ((q2.1 35 38) - (2 : Int32)), .ref 55] q2 := by
        by_cases c7 : jv_ck ((q2.1 35 38) - (2 : Int32)) 68 = true
        · rw [if_pos c7] at h
          refine jv_iast (pc' := 62) hE dX8_laysArcs_61 rfl rfl (jv_ck_in c7) ?_
          refine jv_iinc (x := v4) (v := (v4 + (1 : Int32))) (L' := [some (.ref 35), some (.int a1), some (.int a2), some (.int a3), some (.int (v4 + (1 : Int32)))]) (pc' := 65) hE dX8_laysArcs_62 rfl rfl rfl (by decide) rfl rfl ?_
          refine jv_goto (tgt := 8) hE dX8_laysArcs_65 (by decide) ?_
          exact jv_forget [true, true, true, true, true] (ih (v4 + (1 : Int32)) (jv_si q2 55 ((q2.1 35 38) - (2 : Int32)).toNatClampNeg q4) _ h hk)
        · rw [if_neg c7] at h; cases h
      refine jv_if_eq (x := a3) (tgt := 55) (pc' := 43) hE dX8_laysArcs_40 (by decide) rfl (fun c3 => ?_) (fun c3 => ?_)
      · rw [if_pos c3] at hq4
        refine jv_bipush (v := (24 : Int32)) (pc' := 57) hE dX8_laysArcs_55 rfl (by decide) ?_
        refine jv_goto (tgt := 61) hE dX8_laysArcs_57 (by decide) ?_
        cases hq4
        exact jv_forget [true, true, true, true, true] kq4
      · rw [if_neg c3] at hq4
        refine jv_iload (x := v4) (pc' := 45) hE dX8_laysArcs_43 rfl rfl ?_
        refine jv_iload_n (x := a1) (pc' := 46) hE dX8_laysArcs_45 rfl 1 rfl rfl ?_
        refine jv_icmp_eq (x := v4) (y := a1) (tgt := 55) (pc' := 49) hE dX8_laysArcs_46 (by decide) rfl (fun c5 => ?_) (fun c5 => ?_)
        · rw [if_pos c5] at hq4
          refine jv_bipush (v := (24 : Int32)) (pc' := 57) hE dX8_laysArcs_55 rfl (by decide) ?_
          refine jv_goto (tgt := 61) hE dX8_laysArcs_57 (by decide) ?_
          cases hq4
          exact jv_forget [true, true, true, true, true] kq4
        · rw [if_neg c5] at hq4
          refine jv_iload (x := v4) (pc' := 51) hE dX8_laysArcs_49 rfl rfl ?_
          refine jv_iload_n (x := a2) (pc' := 52) hE dX8_laysArcs_51 rfl 2 rfl rfl ?_
          refine jv_icmp_ne (x := v4) (y := a2) (tgt := 60) (pc' := 55) hE dX8_laysArcs_52 (by decide) rfl (fun c6 => ?_) (fun c6 => ?_)
          · rw [if_neg c6] at hq4
            refine jv_iconst (v := (1 : Int32)) (pc' := 61) hE dX8_laysArcs_60 rfl (by decide) ?_
            cases hq4
            exact jv_forget [true, true, true, true, true] kq4
          · rw [if_pos c6] at hq4
            refine jv_bipush (v := (24 : Int32)) (pc' := 57) hE dX8_laysArcs_55 rfl (by decide) ?_
            refine jv_goto (tgt := 61) hE dX8_laysArcs_57 (by decide) ?_
            cases hq4
            exact jv_forget [true, true, true, true, true] kq4
set_option maxRecDepth 100000 in
set_option maxHeartbeats 4000000 in
theorem lp_X8_laysArcs_71 {E : jv_E} (hE : jv_Cx E RX8 cX8_laysArcs 5 2) : ∀ (n : Nat) (v4 : Int32) (σ : jv_S) (q : Int32 × jv_S), f_X8_laysArcs_lp71 n v4 σ = some q → (jv_V E 123 [none, none, none, none, none] [] q.2) → jv_V E 71 [some (.ref 35), none, none, none, some (.int v4)] [] σ := by
  intro n
  induction n with
  | zero =>
    intro v4 σ q h
    rw [f_X8_laysArcs_lp71] at h
    cases h
  | succ n ih =>
    intro v4 σ q h hk
    rw [f_X8_laysArcs_lp71] at h
    refine jv_iload (x := v4) (pc' := 73) hE dX8_laysArcs_71 rfl rfl ?_
    refine jv_aload_n (x := 35) (pc' := 74) hE dX8_laysArcs_73 rfl 0 rfl rfl ?_
    refine jv_get (v := .int (σ.1 35 2)) (pc' := 77) hE dX8_laysArcs_74 rfl lF_X8_105 rfl rfl rfl ?_
    refine jv_icmp_ge (x := v4) (y := (σ.1 35 2)) (tgt := 123) (pc' := 80) hE dX8_laysArcs_77 (by decide) rfl (fun c9 => ?_) (fun c9 => ?_)
    · rw [if_pos c9] at h
      cases h
      exact jv_forget [false, true, true, true, false] hk
    · rw [if_neg c9] at h
      refine jv_aload_n (x := 35) (pc' := 81) hE dX8_laysArcs_80 rfl 0 rfl rfl ?_
      refine jv_iload (x := v4) (pc' := 83) hE dX8_laysArcs_81 rfl rfl ?_
      obtain ⟨q10, hq10, h⟩ := jv_bd_some h
      refine jv_callV (pc' := 86) (o := some (.int (jv_b q10))) (σ' := σ) hE dX8_laysArcs_83 rfl lV_X8_127 (ok_X8_isUsable hq10) rfl rfl rfl (by decide) rfl (Nat.le_of_ble_eq_true rfl) ?_
      show jv_V E 86 [some (.ref 35), none, none, none, some (.int v4)] [.int (jv_b q10)] σ
      obtain ⟨q12, hq12, h⟩ := jv_bd_some h
      have kq12 : jv_V E 117 [some (.ref 35), none, none, none, some (.int v4)] [] q12 := by
        refine jv_iinc (x := v4) (v := (v4 + (1 : Int32))) (L' := [some (.ref 35), none, none, none, some (.int (v4 + (1 : Int32)))]) (pc' := 120) hE dX8_laysArcs_117 rfl rfl rfl (by decide) rfl rfl ?_
        refine jv_goto (tgt := 71) hE dX8_laysArcs_120 (by decide) ?_
        exact jv_forget [true, true, true, true, true] (ih (v4 + (1 : Int32)) q12 _ h hk)
      refine jv_if_eq (x := (jv_b q10)) (tgt := 117) (pc' := 89) hE dX8_laysArcs_86 (by decide) rfl (fun c11 => ?_) (fun c11 => ?_)
      · have c11 := jv_b0 c11
        rw [if_neg c11] at hq12
        cases hq12
        exact jv_forget [true, true, true, true, true] kq12
      · have c11 := jv_b1 c11
        rw [if_pos c11] at hq12
        refine jv_aload_n (x := 35) (pc' := 90) hE dX8_laysArcs_89 rfl 0 rfl rfl ?_
        refine jv_bipush (v := (10 : Int32)) (pc' := 92) hE dX8_laysArcs_90 rfl (by decide) ?_
        refine jv_aload_n (x := 35) (pc' := 93) hE dX8_laysArcs_92 rfl 0 rfl rfl ?_
        refine jv_get (v := .ref 36) (pc' := 96) hE dX8_laysArcs_93 rfl lF_X8_13 rfl rfl rfl ?_
        refine jv_iload (x := v4) (pc' := 98) hE dX8_laysArcs_96 rfl rfl ?_
        by_cases c13 : jv_ck v4 24 = true
        · rw [if_pos c13] at hq12
          refine jv_iald (pc' := 99) hE dX8_laysArcs_98 rfl rfl (jv_ck_in c13) ?_
          show jv_V E 99 [some (.ref 35), none, none, none, some (.int v4)] [.int (σ.1 36 v4.toNatClampNeg), .int (10 : Int32), .ref 35] σ
          refine jv_iadd (x := (10 : Int32)) (y := (σ.1 36 v4.toNatClampNeg)) (pc' := 100) hE dX8_laysArcs_99 rfl ?_
          refine jv_aload_n (x := 35) (pc' := 101) hE dX8_laysArcs_100 rfl 0 rfl rfl ?_
          refine jv_get (v := .ref 37) (pc' := 104) hE dX8_laysArcs_101 rfl lF_X8_17 rfl rfl rfl ?_
          refine jv_iload (x := v4) (pc' := 106) hE dX8_laysArcs_104 rfl rfl ?_
          by_cases c14 : jv_ck v4 24 = true
          · rw [if_pos c14] at hq12
            refine jv_iald (pc' := 107) hE dX8_laysArcs_106 rfl rfl (jv_ck_in c14) ?_
            show jv_V E 107 [some (.ref 35), none, none, none, some (.int v4)] [.int (σ.1 37 v4.toNatClampNeg), .int ((10 : Int32) + (σ.1 36 v4.toNatClampNeg)), .ref 35] σ
            refine jv_aload_n (x := 35) (pc' := 108) hE dX8_laysArcs_107 rfl 0 rfl rfl ?_
            refine jv_get (v := .ref 38) (pc' := 111) hE dX8_laysArcs_108 rfl lF_X8_20 rfl rfl rfl ?_
            refine jv_iload (x := v4) (pc' := 113) hE dX8_laysArcs_111 rfl rfl ?_
            by_cases c15 : jv_ck v4 24 = true
            · rw [if_pos c15] at hq12
              refine jv_iald (pc' := 114) hE dX8_laysArcs_113 rfl rfl (jv_ck_in c15) ?_
              show jv_V E 114 [some (.ref 35), none, none, none, some (.int v4)] [.int (σ.1 38 v4.toNatClampNeg), .int (σ.1 37 v4.toNatClampNeg), .int ((10 : Int32) + (σ.1 36 v4.toNatClampNeg)), .ref 35] σ
              obtain ⟨q16, hq16, hq12⟩ := jv_bd_some hq12
              refine jv_callV (pc' := 117) (o := none) (σ' := q16) hE dX8_laysArcs_114 rfl lV_X8_206 (ok_X8_arc hq16) rfl rfl rfl (by decide) rfl (Nat.le_of_ble_eq_true rfl) ?_
              show jv_V E 117 [some (.ref 35), none, none, none, some (.int v4)] [] q16
              cases hq12
              exact jv_forget [true, true, true, true, true] kq12
            · rw [if_neg c15] at hq12; cases hq12
          · rw [if_neg c14] at hq12; cases hq12
        · rw [if_neg c13] at hq12; cases hq12
set_option maxRecDepth 100000 in
set_option maxHeartbeats 4000000 in
theorem ok_X8_laysArcs {G : jv_G} {l : Launch} {σ : jv_S} {p1 : Int32} {p2 : Int32} {p3 : Int32} {r : jv_S} (h : f_X8_laysArcs σ p1 p2 p3 = some r) : jv_Cn G l 2 M_X8_laysArcs [.ref 35, .int p1, .int p2, .int p3] σ (none) r := by
  refine jv_of (L0 := [some (.ref 35), some (.int p1), some (.int p2), some (.int p3), none]) (by decide +kernel) (Nat.le_of_ble_eq_true rfl) rfl jv_okV (fun E e1 e2 hE hret => ?_)
  unfold f_X8_laysArcs at h
  refine jv_aload_n (x := 35) (pc' := 1) hE dX8_laysArcs_0 rfl 0 rfl rfl ?_
  refine jv_iconst (v := (0 : Int32)) (pc' := 2) hE dX8_laysArcs_1 rfl (by decide) ?_
  refine jv_puti (x := (0 : Int32)) (pc' := 5) hE dX8_laysArcs_2 rfl lP_X8_203 rfl rfl rfl rfl ?_
  refine jv_iconst (v := (0 : Int32)) (pc' := 6) hE dX8_laysArcs_5 rfl (by decide) ?_
  refine jv_istore (x := (0 : Int32)) (L' := [some (.ref 35), some (.int p1), some (.int p2), some (.int p3), some (.int (0 : Int32))]) (pc' := 8) hE dX8_laysArcs_6 rfl (by decide) rfl rfl ?_
  obtain ⟨q8, hq8, h⟩ := jv_bd_some h
  refine jv_forget [true, true, true, true, true] (lp_X8_laysArcs_8 hE jv_fuel (0 : Int32) (jv_si σ 35 38 (0 : Int32)) _ hq8 ?_)
  refine jv_iconst (v := (0 : Int32)) (pc' := 69) hE dX8_laysArcs_68 rfl (by decide) ?_
  refine jv_istore (x := (0 : Int32)) (L' := [some (.ref 35), none, none, none, some (.int (0 : Int32))]) (pc' := 71) hE dX8_laysArcs_69 rfl (by decide) rfl rfl ?_
  obtain ⟨q17, hq17, h⟩ := jv_bd_some h
  refine jv_forget [true, true, true, true, true] (lp_X8_laysArcs_71 hE jv_fuel (0 : Int32) q8.2 _ hq17 ?_)
  cases h
  exact hret _ _ dX8_laysArcs_123
noncomputable def f_X8_flows_lp2 (a1 : Int32) (a2 : Int32) : Nat → Int32 → jv_S → Option (Int32 × jv_S)
  | 0, _, _ => none
  | n + 1, v3, σ => if (20 : Int32) ≤ v3 then (some (v3, σ)) else (jv_lt (if v3 = a1 then ((0 : Int32)) else ((1000000000 : Int32))) (fun q3 => if jv_ck v3 20 = true then (f_X8_flows_lp2 a1 a2 n (v3 + (1 : Int32)) (jv_si σ 57 v3.toNatClampNeg q3)) else none))
noncomputable def f_X8_flows_lp42 (a1 : Int32) (a2 : Int32) : Nat → Bool → Int32 → jv_S → Option (Bool × Int32 × jv_S)
  | 0, _, _, _ => none
  | n + 1, v3, v4, σ => if (σ.1 35 38) ≤ v4 then (some (v3, v4, σ)) else (if jv_ck v4 68 = true then (jv_bd (if (σ.1 55 v4.toNatClampNeg) ≤ 0 then (some (v3, σ)) else (if jv_ck v4 68 = true then (if jv_ck (σ.1 53 v4.toNatClampNeg) 20 = true then (if (1000000000 : Int32) ≤ (σ.1 57 (σ.1 53 v4.toNatClampNeg).toNatClampNeg) then (some (v3, σ)) else (if jv_ck v4 68 = true then (if jv_ck (σ.1 53 v4.toNatClampNeg) 20 = true then (if jv_ck v4 68 = true then (if jv_ck v4 68 = true then (if jv_ck (σ.1 54 v4.toNatClampNeg) 20 = true then (if (σ.1 57 (σ.1 54 v4.toNatClampNeg).toNatClampNeg) ≤ ((σ.1 57 (σ.1 53 v4.toNatClampNeg).toNatClampNeg) + (σ.1 56 v4.toNatClampNeg)) then (some (v3, σ)) else (if jv_ck v4 68 = true then (if jv_ck v4 68 = true then (if jv_ck (σ.1 53 v4.toNatClampNeg) 20 = true then (if jv_ck v4 68 = true then (if jv_ck (σ.1 54 v4.toNatClampNeg) 20 = true then (if jv_ck v4 68 = true then (if jv_ck (σ.1 54 v4.toNatClampNeg) 20 = true then (some (true, (jv_si (jv_si σ 57 (σ.1 54 v4.toNatClampNeg).toNatClampNeg ((σ.1 57 (σ.1 53 v4.toNatClampNeg).toNatClampNeg) + (σ.1 56 v4.toNatClampNeg))) 58 (σ.1 54 v4.toNatClampNeg).toNatClampNeg v4))) else none) else none) else none) else none) else none) else none) else none)) else none) else none) else none) else none) else none)) else none) else none)) (fun q10 => f_X8_flows_lp42 a1 a2 n q10.1 (v4 + (1 : Int32)) q10.2)) else none)
noncomputable def f_X8_flows_lp33 (a1 : Int32) (a2 : Int32) : Nat → Bool → jv_S → Option (Bool × jv_S)
  | 0, _, _ => none
  | n + 1, v3, σ => if v3 = true then (jv_bd (f_X8_flows_lp42 a1 a2 jv_fuel false (0 : Int32) σ) (fun q7 => f_X8_flows_lp33 a1 a2 n q7.1 q7.2.2)) else (some (v3, σ))
noncomputable def f_X8_flows_lp194 (a1 : Int32) (a2 : Int32) : Nat → Int32 → jv_S → Option (Int32 × jv_S)
  | 0, _, _ => none
  | n + 1, v4, σ => if v4 = a1 then (some (v4, σ)) else (if jv_ck v4 20 = true then (if jv_ck (σ.1 58 v4.toNatClampNeg) 68 = true then (if jv_ck (σ.1 58 v4.toNatClampNeg) 68 = true then (jv_lt (if ((σ.1 58 v4.toNatClampNeg) - (σ.1 58 v4.toNatClampNeg) / (2 : Int32) * (2 : Int32)) = 0 then (((σ.1 58 v4.toNatClampNeg) + (1 : Int32))) else (((σ.1 58 v4.toNatClampNeg) - (1 : Int32)))) (fun q17 => if jv_ck q17 68 = true then (if jv_ck q17 68 = true then (if jv_ck (σ.1 58 v4.toNatClampNeg) 68 = true then (f_X8_flows_lp194 a1 a2 n (σ.1 53 (σ.1 58 v4.toNatClampNeg).toNatClampNeg) (jv_si (jv_si σ 55 (σ.1 58 v4.toNatClampNeg).toNatClampNeg ((σ.1 55 (σ.1 58 v4.toNatClampNeg).toNatClampNeg) - (1 : Int32))) 55 q17.toNatClampNeg (((jv_si σ 55 (σ.1 58 v4.toNatClampNeg).toNatClampNeg ((σ.1 55 (σ.1 58 v4.toNatClampNeg).toNatClampNeg) - (1 : Int32))).1 55 q17.toNatClampNeg) + (1 : Int32)))) else none) else none) else none)) else none) else none) else none)
noncomputable def f_X8_flows (σ : jv_S) (p1 : Int32) (p2 : Int32) : Option (Int32 × jv_S) := jv_bd (f_X8_flows_lp2 p1 p2 jv_fuel (0 : Int32) σ) (fun q5 => jv_bd (f_X8_flows_lp33 p1 p2 jv_fuel true q5.2) (fun q8 => if jv_ck ((10 : Int32) + p2) 20 = true then (jv_lt (if (q8.2.1 57 ((10 : Int32) + p2).toNatClampNeg) = (1000000000 : Int32) then (p1) else (((10 : Int32) + p2))) (fun q11 => jv_bd (f_X8_flows_lp194 p1 p2 jv_fuel q11 q8.2) (fun q21 => if jv_ck ((10 : Int32) + p2) 20 = true then (some ((q21.2.1 57 ((10 : Int32) + p2).toNatClampNeg), q21.2)) else none))) else none))
set_option maxRecDepth 100000 in
set_option maxHeartbeats 4000000 in
theorem lp_X8_flows_2 {a1 : Int32} {a2 : Int32} {E : jv_E} (hE : jv_Cx E RX8 cX8_flows 6 1) : ∀ (n : Nat) (v3 : Int32) (σ : jv_S) (q : Int32 × jv_S), f_X8_flows_lp2 a1 a2 n v3 σ = some q → (jv_V E 31 [some (.ref 35), some (.int a1), some (.int a2), none, none, none] [] q.2) → jv_V E 2 [some (.ref 35), some (.int a1), some (.int a2), some (.int v3), none, none] [] σ := by
  intro n
  induction n with
  | zero =>
    intro v3 σ q h
    rw [f_X8_flows_lp2] at h
    cases h
  | succ n ih =>
    intro v3 σ q h hk
    rw [f_X8_flows_lp2] at h
    refine jv_iload_n (x := v3) (pc' := 3) hE dX8_flows_2 rfl 3 rfl rfl ?_
    refine jv_bipush (v := (20 : Int32)) (pc' := 5) hE dX8_flows_3 rfl (by decide) ?_
    refine jv_icmp_ge (x := v3) (y := (20 : Int32)) (tgt := 31) (pc' := 8) hE dX8_flows_5 (by decide) rfl (fun c1 => ?_) (fun c1 => ?_)
    · rw [if_pos c1] at h
      cases h
      exact jv_forget [true, true, true, false, true, true] hk
    · rw [if_neg c1] at h
      refine jv_aload_n (x := 35) (pc' := 9) hE dX8_flows_8 rfl 0 rfl rfl ?_
      refine jv_get (v := .ref 57) (pc' := 12) hE dX8_flows_9 rfl lF_X8_78 rfl rfl rfl ?_
      refine jv_iload_n (x := v3) (pc' := 13) hE dX8_flows_12 rfl 3 rfl rfl ?_
      refine jv_iload_n (x := v3) (pc' := 14) hE dX8_flows_13 rfl 3 rfl rfl ?_
      refine jv_iload_n (x := a1) (pc' := 15) hE dX8_flows_14 rfl 1 rfl rfl ?_
      obtain ⟨q3, hq3, h⟩ := jv_lt_eq h
      have kq3 : jv_V E 24 [some (.ref 35), some (.int a1), some (.int a2), some (.int v3), none, none] [.int q3, .int v3, .ref 57] σ := by
        by_cases c4 : jv_ck v3 20 = true
        · rw [if_pos c4] at h
          refine jv_iast (pc' := 25) hE dX8_flows_24 rfl rfl (jv_ck_in c4) ?_
          refine jv_iinc (x := v3) (v := (v3 + (1 : Int32))) (L' := [some (.ref 35), some (.int a1), some (.int a2), some (.int (v3 + (1 : Int32))), none, none]) (pc' := 28) hE dX8_flows_25 rfl rfl rfl (by decide) rfl rfl ?_
          refine jv_goto (tgt := 2) hE dX8_flows_28 (by decide) ?_
          exact jv_forget [true, true, true, true, true, true] (ih (v3 + (1 : Int32)) (jv_si σ 57 v3.toNatClampNeg q3) _ h hk)
        · rw [if_neg c4] at h; cases h
      refine jv_icmp_ne (x := v3) (y := a1) (tgt := 22) (pc' := 18) hE dX8_flows_15 (by decide) rfl (fun c2 => ?_) (fun c2 => ?_)
      · rw [if_neg c2] at hq3
        refine jv_ldc (v := (1000000000 : Int32)) (pc' := 24) hE dX8_flows_22 rfl lC_X8_130 ?_
        cases hq3
        exact jv_forget [true, true, true, true, true, true] kq3
      · rw [if_pos c2] at hq3
        refine jv_iconst (v := (0 : Int32)) (pc' := 19) hE dX8_flows_18 rfl (by decide) ?_
        refine jv_goto (tgt := 24) hE dX8_flows_19 (by decide) ?_
        cases hq3
        exact jv_forget [true, true, true, true, true, true] kq3
set_option maxRecDepth 100000 in
set_option maxHeartbeats 4000000 in
theorem lp_X8_flows_42 {a1 : Int32} {a2 : Int32} {E : jv_E} (hE : jv_Cx E RX8 cX8_flows 6 1) : ∀ (n : Nat) (v3 : Bool) (v4 : Int32) (σ : jv_S) (q : Bool × Int32 × jv_S), f_X8_flows_lp42 a1 a2 n v3 v4 σ = some q → (jv_V E 167 [some (.ref 35), some (.int a1), some (.int a2), some (.int (jv_b q.1)), none, none] [] q.2.2) → jv_V E 42 [some (.ref 35), some (.int a1), some (.int a2), some (.int (jv_b v3)), some (.int v4), none] [] σ := by
  intro n
  induction n with
  | zero =>
    intro v3 v4 σ q h
    rw [f_X8_flows_lp42] at h
    cases h
  | succ n ih =>
    intro v3 v4 σ q h hk
    rw [f_X8_flows_lp42] at h
    refine jv_iload (x := v4) (pc' := 44) hE dX8_flows_42 rfl rfl ?_
    refine jv_aload_n (x := 35) (pc' := 45) hE dX8_flows_44 rfl 0 rfl rfl ?_
    refine jv_get (v := .int (σ.1 35 38)) (pc' := 48) hE dX8_flows_45 rfl lF_X8_203 rfl rfl rfl ?_
    refine jv_icmp_ge (x := v4) (y := (σ.1 35 38)) (tgt := 167) (pc' := 51) hE dX8_flows_48 (by decide) rfl (fun c7 => ?_) (fun c7 => ?_)
    · rw [if_pos c7] at h
      cases h
      exact jv_forget [true, true, true, true, false, true] hk
    · rw [if_neg c7] at h
      refine jv_aload_n (x := 35) (pc' := 52) hE dX8_flows_51 rfl 0 rfl rfl ?_
      refine jv_get (v := .ref 55) (pc' := 55) hE dX8_flows_52 rfl lF_X8_72 rfl rfl rfl ?_
      refine jv_iload (x := v4) (pc' := 57) hE dX8_flows_55 rfl rfl ?_
      by_cases c8 : jv_ck v4 68 = true
      · rw [if_pos c8] at h
        refine jv_iald (pc' := 58) hE dX8_flows_57 rfl rfl (jv_ck_in c8) ?_
        show jv_V E 58 [some (.ref 35), some (.int a1), some (.int a2), some (.int (jv_b v3)), some (.int v4), none] [.int (σ.1 55 v4.toNatClampNeg)] σ
        obtain ⟨q10, hq10, h⟩ := jv_bd_some h
        have kq10 : jv_V E 161 [some (.ref 35), some (.int a1), some (.int a2), some (.int (jv_b q10.1)), some (.int v4), none] [] q10.2 := by
          refine jv_iinc (x := v4) (v := (v4 + (1 : Int32))) (L' := [some (.ref 35), some (.int a1), some (.int a2), some (.int (jv_b q10.1)), some (.int (v4 + (1 : Int32))), none]) (pc' := 164) hE dX8_flows_161 rfl rfl rfl (by decide) rfl rfl ?_
          refine jv_goto (tgt := 42) hE dX8_flows_164 (by decide) ?_
          exact jv_forget [true, true, true, true, true, true] (ih q10.1 (v4 + (1 : Int32)) q10.2 _ h hk)
        refine jv_if_le (x := (σ.1 55 v4.toNatClampNeg)) (tgt := 161) (pc' := 61) hE dX8_flows_58 (by decide) rfl (fun c9 => ?_) (fun c9 => ?_)
        · rw [if_pos c9] at hq10
          cases hq10
          exact jv_forget [true, true, true, true, true, true] kq10
        · rw [if_neg c9] at hq10
          refine jv_aload_n (x := 35) (pc' := 62) hE dX8_flows_61 rfl 0 rfl rfl ?_
          refine jv_get (v := .ref 57) (pc' := 65) hE dX8_flows_62 rfl lF_X8_78 rfl rfl rfl ?_
          refine jv_aload_n (x := 35) (pc' := 66) hE dX8_flows_65 rfl 0 rfl rfl ?_
          refine jv_get (v := .ref 53) (pc' := 69) hE dX8_flows_66 rfl lF_X8_66 rfl rfl rfl ?_
          refine jv_iload (x := v4) (pc' := 71) hE dX8_flows_69 rfl rfl ?_
          by_cases c11 : jv_ck v4 68 = true
          · rw [if_pos c11] at hq10
            refine jv_iald (pc' := 72) hE dX8_flows_71 rfl rfl (jv_ck_in c11) ?_
            show jv_V E 72 [some (.ref 35), some (.int a1), some (.int a2), some (.int (jv_b v3)), some (.int v4), none] [.int (σ.1 53 v4.toNatClampNeg), .ref 57] σ
            by_cases c12 : jv_ck (σ.1 53 v4.toNatClampNeg) 20 = true
            · rw [if_pos c12] at hq10
              refine jv_iald (pc' := 73) hE dX8_flows_72 rfl rfl (jv_ck_in c12) ?_
              show jv_V E 73 [some (.ref 35), some (.int a1), some (.int a2), some (.int (jv_b v3)), some (.int v4), none] [.int (σ.1 57 (σ.1 53 v4.toNatClampNeg).toNatClampNeg)] σ
              refine jv_ldc (v := (1000000000 : Int32)) (pc' := 75) hE dX8_flows_73 rfl lC_X8_130 ?_
              refine jv_icmp_ge (x := (σ.1 57 (σ.1 53 v4.toNatClampNeg).toNatClampNeg)) (y := (1000000000 : Int32)) (tgt := 161) (pc' := 78) hE dX8_flows_75 (by decide) rfl (fun c13 => ?_) (fun c13 => ?_)
              · rw [if_pos c13] at hq10
                cases hq10
                exact jv_forget [true, true, true, true, true, true] kq10
              · rw [if_neg c13] at hq10
                refine jv_aload_n (x := 35) (pc' := 79) hE dX8_flows_78 rfl 0 rfl rfl ?_
                refine jv_get (v := .ref 57) (pc' := 82) hE dX8_flows_79 rfl lF_X8_78 rfl rfl rfl ?_
                refine jv_aload_n (x := 35) (pc' := 83) hE dX8_flows_82 rfl 0 rfl rfl ?_
                refine jv_get (v := .ref 53) (pc' := 86) hE dX8_flows_83 rfl lF_X8_66 rfl rfl rfl ?_
                refine jv_iload (x := v4) (pc' := 88) hE dX8_flows_86 rfl rfl ?_
                by_cases c14 : jv_ck v4 68 = true
                · rw [if_pos c14] at hq10
                  refine jv_iald (pc' := 89) hE dX8_flows_88 rfl rfl (jv_ck_in c14) ?_
                  show jv_V E 89 [some (.ref 35), some (.int a1), some (.int a2), some (.int (jv_b v3)), some (.int v4), none] [.int (σ.1 53 v4.toNatClampNeg), .ref 57] σ
                  by_cases c15 : jv_ck (σ.1 53 v4.toNatClampNeg) 20 = true
                  · rw [if_pos c15] at hq10
                    refine jv_iald (pc' := 90) hE dX8_flows_89 rfl rfl (jv_ck_in c15) ?_
                    show jv_V E 90 [some (.ref 35), some (.int a1), some (.int a2), some (.int (jv_b v3)), some (.int v4), none] [.int (σ.1 57 (σ.1 53 v4.toNatClampNeg).toNatClampNeg)] σ
                    refine jv_aload_n (x := 35) (pc' := 91) hE dX8_flows_90 rfl 0 rfl rfl ?_
                    refine jv_get (v := .ref 56) (pc' := 94) hE dX8_flows_91 rfl lF_X8_75 rfl rfl rfl ?_
                    refine jv_iload (x := v4) (pc' := 96) hE dX8_flows_94 rfl rfl ?_
                    by_cases c16 : jv_ck v4 68 = true
                    · rw [if_pos c16] at hq10
                      refine jv_iald (pc' := 97) hE dX8_flows_96 rfl rfl (jv_ck_in c16) ?_
                      show jv_V E 97 [some (.ref 35), some (.int a1), some (.int a2), some (.int (jv_b v3)), some (.int v4), none] [.int (σ.1 56 v4.toNatClampNeg), .int (σ.1 57 (σ.1 53 v4.toNatClampNeg).toNatClampNeg)] σ
                      refine jv_iadd (x := (σ.1 57 (σ.1 53 v4.toNatClampNeg).toNatClampNeg)) (y := (σ.1 56 v4.toNatClampNeg)) (pc' := 98) hE dX8_flows_97 rfl ?_
                      refine jv_aload_n (x := 35) (pc' := 99) hE dX8_flows_98 rfl 0 rfl rfl ?_
                      refine jv_get (v := .ref 57) (pc' := 102) hE dX8_flows_99 rfl lF_X8_78 rfl rfl rfl ?_
                      refine jv_aload_n (x := 35) (pc' := 103) hE dX8_flows_102 rfl 0 rfl rfl ?_
                      refine jv_get (v := .ref 54) (pc' := 106) hE dX8_flows_103 rfl lF_X8_69 rfl rfl rfl ?_
                      refine jv_iload (x := v4) (pc' := 108) hE dX8_flows_106 rfl rfl ?_
                      by_cases c17 : jv_ck v4 68 = true
                      · rw [if_pos c17] at hq10
                        refine jv_iald (pc' := 109) hE dX8_flows_108 rfl rfl (jv_ck_in c17) ?_
                        show jv_V E 109 [some (.ref 35), some (.int a1), some (.int a2), some (.int (jv_b v3)), some (.int v4), none] [.int (σ.1 54 v4.toNatClampNeg), .ref 57, .int ((σ.1 57 (σ.1 53 v4.toNatClampNeg).toNatClampNeg) + (σ.1 56 v4.toNatClampNeg))] σ
                        by_cases c18 : jv_ck (σ.1 54 v4.toNatClampNeg) 20 = true
                        · rw [if_pos c18] at hq10
                          refine jv_iald (pc' := 110) hE dX8_flows_109 rfl rfl (jv_ck_in c18) ?_
                          show jv_V E 110 [some (.ref 35), some (.int a1), some (.int a2), some (.int (jv_b v3)), some (.int v4), none] [.int (σ.1 57 (σ.1 54 v4.toNatClampNeg).toNatClampNeg), .int ((σ.1 57 (σ.1 53 v4.toNatClampNeg).toNatClampNeg) + (σ.1 56 v4.toNatClampNeg))] σ
                          refine jv_icmp_ge (x := ((σ.1 57 (σ.1 53 v4.toNatClampNeg).toNatClampNeg) + (σ.1 56 v4.toNatClampNeg))) (y := (σ.1 57 (σ.1 54 v4.toNatClampNeg).toNatClampNeg)) (tgt := 161) (pc' := 113) hE dX8_flows_110 (by decide) rfl (fun c19 => ?_) (fun c19 => ?_)
                          · rw [if_pos c19] at hq10
                            cases hq10
                            exact jv_forget [true, true, true, true, true, true] kq10
                          · rw [if_neg c19] at hq10
                            refine jv_aload_n (x := 35) (pc' := 114) hE dX8_flows_113 rfl 0 rfl rfl ?_
                            refine jv_get (v := .ref 57) (pc' := 117) hE dX8_flows_114 rfl lF_X8_78 rfl rfl rfl ?_
                            refine jv_aload_n (x := 35) (pc' := 118) hE dX8_flows_117 rfl 0 rfl rfl ?_
                            refine jv_get (v := .ref 54) (pc' := 121) hE dX8_flows_118 rfl lF_X8_69 rfl rfl rfl ?_
                            refine jv_iload (x := v4) (pc' := 123) hE dX8_flows_121 rfl rfl ?_
                            by_cases c20 : jv_ck v4 68 = true
                            · rw [if_pos c20] at hq10
                              refine jv_iald (pc' := 124) hE dX8_flows_123 rfl rfl (jv_ck_in c20) ?_
                              show jv_V E 124 [some (.ref 35), some (.int a1), some (.int a2), some (.int (jv_b v3)), some (.int v4), none] [.int (σ.1 54 v4.toNatClampNeg), .ref 57] σ
                              refine jv_aload_n (x := 35) (pc' := 125) hE dX8_flows_124 rfl 0 rfl rfl ?_
                              refine jv_get (v := .ref 57) (pc' := 128) hE dX8_flows_125 rfl lF_X8_78 rfl rfl rfl ?_
                              refine jv_aload_n (x := 35) (pc' := 129) hE dX8_flows_128 rfl 0 rfl rfl ?_
                              refine jv_get (v := .ref 53) (pc' := 132) hE dX8_flows_129 rfl lF_X8_66 rfl rfl rfl ?_
                              refine jv_iload (x := v4) (pc' := 134) hE dX8_flows_132 rfl rfl ?_
                              by_cases c21 : jv_ck v4 68 = true
                              · rw [if_pos c21] at hq10
                                refine jv_iald (pc' := 135) hE dX8_flows_134 rfl rfl (jv_ck_in c21) ?_
                                show jv_V E 135 [some (.ref 35), some (.int a1), some (.int a2), some (.int (jv_b v3)), some (.int v4), none] [.int (σ.1 53 v4.toNatClampNeg), .ref 57, .int (σ.1 54 v4.toNatClampNeg), .ref 57] σ
                                by_cases c22 : jv_ck (σ.1 53 v4.toNatClampNeg) 20 = true
                                · rw [if_pos c22] at hq10
                                  refine jv_iald (pc' := 136) hE dX8_flows_135 rfl rfl (jv_ck_in c22) ?_
                                  show jv_V E 136 [some (.ref 35), some (.int a1), some (.int a2), some (.int (jv_b v3)), some (.int v4), none] [.int (σ.1 57 (σ.1 53 v4.toNatClampNeg).toNatClampNeg), .int (σ.1 54 v4.toNatClampNeg), .ref 57] σ
                                  refine jv_aload_n (x := 35) (pc' := 137) hE dX8_flows_136 rfl 0 rfl rfl ?_
                                  refine jv_get (v := .ref 56) (pc' := 140) hE dX8_flows_137 rfl lF_X8_75 rfl rfl rfl ?_
                                  refine jv_iload (x := v4) (pc' := 142) hE dX8_flows_140 rfl rfl ?_
                                  by_cases c23 : jv_ck v4 68 = true
                                  · rw [if_pos c23] at hq10
                                    refine jv_iald (pc' := 143) hE dX8_flows_142 rfl rfl (jv_ck_in c23) ?_
                                    show jv_V E 143 [some (.ref 35), some (.int a1), some (.int a2), some (.int (jv_b v3)), some (.int v4), none] [.int (σ.1 56 v4.toNatClampNeg), .int (σ.1 57 (σ.1 53 v4.toNatClampNeg).toNatClampNeg), .int (σ.1 54 v4.toNatClampNeg), .ref 57] σ
                                    refine jv_iadd (x := (σ.1 57 (σ.1 53 v4.toNatClampNeg).toNatClampNeg)) (y := (σ.1 56 v4.toNatClampNeg)) (pc' := 144) hE dX8_flows_143 rfl ?_
                                    by_cases c24 : jv_ck (σ.1 54 v4.toNatClampNeg) 20 = true
                                    · rw [if_pos c24] at hq10
                                      refine jv_iast (pc' := 145) hE dX8_flows_144 rfl rfl (jv_ck_in c24) ?_
                                      refine jv_aload_n (x := 35) (pc' := 146) hE dX8_flows_145 rfl 0 rfl rfl ?_
                                      refine jv_get (v := .ref 58) (pc' := 149) hE dX8_flows_146 rfl lF_X8_81 rfl rfl rfl ?_
                                      refine jv_aload_n (x := 35) (pc' := 150) hE dX8_flows_149 rfl 0 rfl rfl ?_
                                      refine jv_get (v := .ref 54) (pc' := 153) hE dX8_flows_150 rfl lF_X8_69 rfl rfl rfl ?_
                                      refine jv_iload (x := v4) (pc' := 155) hE dX8_flows_153 rfl rfl ?_
                                      by_cases c25 : jv_ck v4 68 = true
                                      · rw [if_pos c25] at hq10
                                        refine jv_iald (pc' := 156) hE dX8_flows_155 rfl rfl (jv_ck_in c25) ?_
                                        show jv_V E 156 [some (.ref 35), some (.int a1), some (.int a2), some (.int (jv_b v3)), some (.int v4), none] [.int (σ.1 54 v4.toNatClampNeg), .ref 58] (jv_si σ 57 (σ.1 54 v4.toNatClampNeg).toNatClampNeg ((σ.1 57 (σ.1 53 v4.toNatClampNeg).toNatClampNeg) + (σ.1 56 v4.toNatClampNeg)))
                                        refine jv_iload (x := v4) (pc' := 158) hE dX8_flows_156 rfl rfl ?_
                                        by_cases c26 : jv_ck (σ.1 54 v4.toNatClampNeg) 20 = true
                                        · rw [if_pos c26] at hq10
                                          refine jv_iast (pc' := 159) hE dX8_flows_158 rfl rfl (jv_ck_in c26) ?_
                                          refine jv_iconst (v := (1 : Int32)) (pc' := 160) hE dX8_flows_159 rfl (by decide) ?_
                                          refine jv_istore_n (x := (1 : Int32)) (L' := [some (.ref 35), some (.int a1), some (.int a2), some (.int (1 : Int32)), some (.int v4), none]) (pc' := 161) hE dX8_flows_160 rfl 3 rfl (by decide) rfl rfl ?_
                                          cases hq10
                                          exact jv_forget [true, true, true, true, true, true] kq10
                                        · rw [if_neg c26] at hq10; cases hq10
                                      · rw [if_neg c25] at hq10; cases hq10
                                    · rw [if_neg c24] at hq10; cases hq10
                                  · rw [if_neg c23] at hq10; cases hq10
                                · rw [if_neg c22] at hq10; cases hq10
                              · rw [if_neg c21] at hq10; cases hq10
                            · rw [if_neg c20] at hq10; cases hq10
                        · rw [if_neg c18] at hq10; cases hq10
                      · rw [if_neg c17] at hq10; cases hq10
                    · rw [if_neg c16] at hq10; cases hq10
                  · rw [if_neg c15] at hq10; cases hq10
                · rw [if_neg c14] at hq10; cases hq10
            · rw [if_neg c12] at hq10; cases hq10
          · rw [if_neg c11] at hq10; cases hq10
      · rw [if_neg c8] at h; cases h
set_option maxRecDepth 100000 in
set_option maxHeartbeats 4000000 in
theorem lp_X8_flows_33 {a1 : Int32} {a2 : Int32} {E : jv_E} (hE : jv_Cx E RX8 cX8_flows 6 1) : ∀ (n : Nat) (v3 : Bool) (σ : jv_S) (q : Bool × jv_S), f_X8_flows_lp33 a1 a2 n v3 σ = some q → (jv_V E 170 [some (.ref 35), some (.int a1), some (.int a2), none, none, none] [] q.2) → jv_V E 33 [some (.ref 35), some (.int a1), some (.int a2), some (.int (jv_b v3)), none, none] [] σ := by
  intro n
  induction n with
  | zero =>
    intro v3 σ q h
    rw [f_X8_flows_lp33] at h
    cases h
  | succ n ih =>
    intro v3 σ q h hk
    rw [f_X8_flows_lp33] at h
    refine jv_iload_n (x := (jv_b v3)) (pc' := 34) hE dX8_flows_33 rfl 3 rfl rfl ?_
    refine jv_if_eq (x := (jv_b v3)) (tgt := 170) (pc' := 37) hE dX8_flows_34 (by decide) rfl (fun c6 => ?_) (fun c6 => ?_)
    · have c6 := jv_b0 c6
      rw [if_neg c6] at h
      cases h
      exact jv_forget [true, true, true, false, true, true] hk
    · have c6 := jv_b1 c6
      rw [if_pos c6] at h
      refine jv_iconst (v := (0 : Int32)) (pc' := 38) hE dX8_flows_37 rfl (by decide) ?_
      refine jv_istore_n (x := (0 : Int32)) (L' := [some (.ref 35), some (.int a1), some (.int a2), some (.int (0 : Int32)), none, none]) (pc' := 39) hE dX8_flows_38 rfl 3 rfl (by decide) rfl rfl ?_
      refine jv_iconst (v := (0 : Int32)) (pc' := 40) hE dX8_flows_39 rfl (by decide) ?_
      refine jv_istore (x := (0 : Int32)) (L' := [some (.ref 35), some (.int a1), some (.int a2), some (.int (0 : Int32)), some (.int (0 : Int32)), none]) (pc' := 42) hE dX8_flows_40 rfl (by decide) rfl rfl ?_
      obtain ⟨q7, hq7, h⟩ := jv_bd_some h
      refine jv_forget [true, true, true, true, true, true] (lp_X8_flows_42 hE jv_fuel false (0 : Int32) σ _ hq7 ?_)
      refine jv_goto (tgt := 33) hE dX8_flows_167 (by decide) ?_
      exact jv_forget [true, true, true, true, true, true] (ih q7.1 q7.2.2 _ h hk)
set_option maxRecDepth 100000 in
set_option maxHeartbeats 4000000 in
theorem lp_X8_flows_194 {a1 : Int32} {a2 : Int32} {E : jv_E} (hE : jv_Cx E RX8 cX8_flows 6 1) : ∀ (n : Nat) (v4 : Int32) (σ : jv_S) (q : Int32 × jv_S), f_X8_flows_lp194 a1 a2 n v4 σ = some q → (jv_V E 259 [some (.ref 35), none, some (.int a2), none, none, none] [] q.2) → jv_V E 194 [some (.ref 35), some (.int a1), some (.int a2), none, some (.int v4), none] [] σ := by
  intro n
  induction n with
  | zero =>
    intro v4 σ q h
    rw [f_X8_flows_lp194] at h
    cases h
  | succ n ih =>
    intro v4 σ q h hk
    rw [f_X8_flows_lp194] at h
    refine jv_iload (x := v4) (pc' := 196) hE dX8_flows_194 rfl rfl ?_
    refine jv_iload_n (x := a1) (pc' := 197) hE dX8_flows_196 rfl 1 rfl rfl ?_
    refine jv_icmp_eq (x := v4) (y := a1) (tgt := 259) (pc' := 200) hE dX8_flows_197 (by decide) rfl (fun c12 => ?_) (fun c12 => ?_)
    · rw [if_pos c12] at h
      cases h
      exact jv_forget [true, false, true, true, false, true] hk
    · rw [if_neg c12] at h
      refine jv_aload_n (x := 35) (pc' := 201) hE dX8_flows_200 rfl 0 rfl rfl ?_
      refine jv_get (v := .ref 58) (pc' := 204) hE dX8_flows_201 rfl lF_X8_81 rfl rfl rfl ?_
      refine jv_iload (x := v4) (pc' := 206) hE dX8_flows_204 rfl rfl ?_
      by_cases c13 : jv_ck v4 20 = true
      · rw [if_pos c13] at h
        refine jv_iald (pc' := 207) hE dX8_flows_206 rfl rfl (jv_ck_in c13) ?_
        show jv_V E 207 [some (.ref 35), some (.int a1), some (.int a2), none, some (.int v4), none] [.int (σ.1 58 v4.toNatClampNeg)] σ
        refine jv_istore (x := (σ.1 58 v4.toNatClampNeg)) (L' := [some (.ref 35), some (.int a1), some (.int a2), none, some (.int v4), some (.int (σ.1 58 v4.toNatClampNeg))]) (pc' := 209) hE dX8_flows_207 rfl (by decide) rfl rfl ?_
        refine jv_aload_n (x := 35) (pc' := 210) hE dX8_flows_209 rfl 0 rfl rfl ?_
        refine jv_get (v := .ref 55) (pc' := 213) hE dX8_flows_210 rfl lF_X8_72 rfl rfl rfl ?_
        refine jv_iload (x := (σ.1 58 v4.toNatClampNeg)) (pc' := 215) hE dX8_flows_213 rfl rfl ?_
        refine jv_dup2 (pc' := 216) hE dX8_flows_215 rfl rfl rfl ?_
        by_cases c14 : jv_ck (σ.1 58 v4.toNatClampNeg) 68 = true
        · rw [if_pos c14] at h
          refine jv_iald (pc' := 217) hE dX8_flows_216 rfl rfl (jv_ck_in c14) ?_
          show jv_V E 217 [some (.ref 35), some (.int a1), some (.int a2), none, some (.int v4), some (.int (σ.1 58 v4.toNatClampNeg))] [.int (σ.1 55 (σ.1 58 v4.toNatClampNeg).toNatClampNeg), .int (σ.1 58 v4.toNatClampNeg), .ref 55] σ
          refine jv_iconst (v := (1 : Int32)) (pc' := 218) hE dX8_flows_217 rfl (by decide) ?_
          refine jv_isub (x := (σ.1 55 (σ.1 58 v4.toNatClampNeg).toNatClampNeg)) (y := (1 : Int32)) (pc' := 219) hE dX8_flows_218 rfl ?_
          by_cases c15 : jv_ck (σ.1 58 v4.toNatClampNeg) 68 = true
          · rw [if_pos c15] at h
            refine jv_iast (pc' := 220) hE dX8_flows_219 rfl rfl (jv_ck_in c15) ?_
            refine jv_aload_n (x := 35) (pc' := 221) hE dX8_flows_220 rfl 0 rfl rfl ?_
            refine jv_get (v := .ref 55) (pc' := 224) hE dX8_flows_221 rfl lF_X8_72 rfl rfl rfl ?_
            refine jv_iload (x := (σ.1 58 v4.toNatClampNeg)) (pc' := 226) hE dX8_flows_224 rfl rfl ?_
            refine jv_iconst (v := (2 : Int32)) (pc' := 227) hE dX8_flows_226 rfl (by decide) ?_
            refine jv_irem (x := (σ.1 58 v4.toNatClampNeg)) (y := (2 : Int32)) (pc' := 228) hE dX8_flows_227 rfl (by decide) ?_
            obtain ⟨q17, hq17, h⟩ := jv_lt_eq h
            have kq17 : jv_V E 242 [some (.ref 35), some (.int a1), some (.int a2), none, none, some (.int (σ.1 58 v4.toNatClampNeg))] [.int q17, .ref 55] (jv_si σ 55 (σ.1 58 v4.toNatClampNeg).toNatClampNeg ((σ.1 55 (σ.1 58 v4.toNatClampNeg).toNatClampNeg) - (1 : Int32))) := by
              refine jv_dup2 (pc' := 243) hE dX8_flows_242 rfl rfl rfl ?_
              by_cases c18 : jv_ck q17 68 = true
              · rw [if_pos c18] at h
                refine jv_iald (pc' := 244) hE dX8_flows_243 rfl rfl (jv_ck_in c18) ?_
                show jv_V E 244 [some (.ref 35), some (.int a1), some (.int a2), none, none, some (.int (σ.1 58 v4.toNatClampNeg))] [.int ((jv_si σ 55 (σ.1 58 v4.toNatClampNeg).toNatClampNeg ((σ.1 55 (σ.1 58 v4.toNatClampNeg).toNatClampNeg) - (1 : Int32))).1 55 q17.toNatClampNeg), .int q17, .ref 55] (jv_si σ 55 (σ.1 58 v4.toNatClampNeg).toNatClampNeg ((σ.1 55 (σ.1 58 v4.toNatClampNeg).toNatClampNeg) - (1 : Int32)))
                refine jv_iconst (v := (1 : Int32)) (pc' := 245) hE dX8_flows_244 rfl (by decide) ?_
                refine jv_iadd (x := ((jv_si σ 55 (σ.1 58 v4.toNatClampNeg).toNatClampNeg ((σ.1 55 (σ.1 58 v4.toNatClampNeg).toNatClampNeg) - (1 : Int32))).1 55 q17.toNatClampNeg)) (y := (1 : Int32)) (pc' := 246) hE dX8_flows_245 rfl ?_
                by_cases c19 : jv_ck q17 68 = true
                · rw [if_pos c19] at h
                  refine jv_iast (pc' := 247) hE dX8_flows_246 rfl rfl (jv_ck_in c19) ?_
                  refine jv_aload_n (x := 35) (pc' := 248) hE dX8_flows_247 rfl 0 rfl rfl ?_
                  refine jv_get (v := .ref 53) (pc' := 251) hE dX8_flows_248 rfl lF_X8_66 rfl rfl rfl ?_
                  refine jv_iload (x := (σ.1 58 v4.toNatClampNeg)) (pc' := 253) hE dX8_flows_251 rfl rfl ?_
                  by_cases c20 : jv_ck (σ.1 58 v4.toNatClampNeg) 68 = true
                  · rw [if_pos c20] at h
                    refine jv_iald (pc' := 254) hE dX8_flows_253 rfl rfl (jv_ck_in c20) ?_
                    show jv_V E 254 [some (.ref 35), some (.int a1), some (.int a2), none, none, some (.int (σ.1 58 v4.toNatClampNeg))] [.int (σ.1 53 (σ.1 58 v4.toNatClampNeg).toNatClampNeg)] (jv_si (jv_si σ 55 (σ.1 58 v4.toNatClampNeg).toNatClampNeg ((σ.1 55 (σ.1 58 v4.toNatClampNeg).toNatClampNeg) - (1 : Int32))) 55 q17.toNatClampNeg (((jv_si σ 55 (σ.1 58 v4.toNatClampNeg).toNatClampNeg ((σ.1 55 (σ.1 58 v4.toNatClampNeg).toNatClampNeg) - (1 : Int32))).1 55 q17.toNatClampNeg) + (1 : Int32)))
                    refine jv_istore (x := (σ.1 53 (σ.1 58 v4.toNatClampNeg).toNatClampNeg)) (L' := [some (.ref 35), some (.int a1), some (.int a2), none, some (.int (σ.1 53 (σ.1 58 v4.toNatClampNeg).toNatClampNeg)), some (.int (σ.1 58 v4.toNatClampNeg))]) (pc' := 256) hE dX8_flows_254 rfl (by decide) rfl rfl ?_
                    refine jv_goto (tgt := 194) hE dX8_flows_256 (by decide) ?_
                    exact jv_forget [true, true, true, true, true, false] (ih (σ.1 53 (σ.1 58 v4.toNatClampNeg).toNatClampNeg) (jv_si (jv_si σ 55 (σ.1 58 v4.toNatClampNeg).toNatClampNeg ((σ.1 55 (σ.1 58 v4.toNatClampNeg).toNatClampNeg) - (1 : Int32))) 55 q17.toNatClampNeg (((jv_si σ 55 (σ.1 58 v4.toNatClampNeg).toNatClampNeg ((σ.1 55 (σ.1 58 v4.toNatClampNeg).toNatClampNeg) - (1 : Int32))).1 55 q17.toNatClampNeg) + (1 : Int32))) _ h hk)
                  · rw [if_neg c20] at h; cases h
                · rw [if_neg c19] at h; cases h
              · rw [if_neg c18] at h; cases h
            refine jv_if_ne (x := ((σ.1 58 v4.toNatClampNeg) - (σ.1 58 v4.toNatClampNeg) / (2 : Int32) * (2 : Int32))) (tgt := 238) (pc' := 231) hE dX8_flows_228 (by decide) rfl (fun c16 => ?_) (fun c16 => ?_)
            · rw [if_neg c16] at hq17
              refine jv_iload (x := (σ.1 58 v4.toNatClampNeg)) (pc' := 240) hE dX8_flows_238 rfl rfl ?_
              refine jv_iconst (v := (1 : Int32)) (pc' := 241) hE dX8_flows_240 rfl (by decide) ?_
              refine jv_isub (x := (σ.1 58 v4.toNatClampNeg)) (y := (1 : Int32)) (pc' := 242) hE dX8_flows_241 rfl ?_
              cases hq17
              exact jv_forget [true, true, true, true, false, true] kq17
            · rw [if_pos c16] at hq17
              refine jv_iload (x := (σ.1 58 v4.toNatClampNeg)) (pc' := 233) hE dX8_flows_231 rfl rfl ?_
              refine jv_iconst (v := (1 : Int32)) (pc' := 234) hE dX8_flows_233 rfl (by decide) ?_
              refine jv_iadd (x := (σ.1 58 v4.toNatClampNeg)) (y := (1 : Int32)) (pc' := 235) hE dX8_flows_234 rfl ?_
              refine jv_goto (tgt := 242) hE dX8_flows_235 (by decide) ?_
              cases hq17
              exact jv_forget [true, true, true, true, false, true] kq17
          · rw [if_neg c15] at h; cases h
        · rw [if_neg c14] at h; cases h
      · rw [if_neg c13] at h; cases h
set_option maxRecDepth 100000 in
set_option maxHeartbeats 4000000 in
theorem ok_X8_flows {G : jv_G} {l : Launch} {σ : jv_S} {p1 : Int32} {p2 : Int32} {r : Int32 × jv_S} (h : f_X8_flows σ p1 p2 = some r) : jv_Cn G l 1 M_X8_flows [.ref 35, .int p1, .int p2] σ (some (.int r.1)) r.2 := by
  refine jv_of (L0 := [some (.ref 35), some (.int p1), some (.int p2), none, none, none]) (by decide +kernel) (Nat.le_of_ble_eq_true rfl) rfl (jv_okI _) (fun E e1 e2 hE hret => ?_)
  unfold f_X8_flows at h
  refine jv_iconst (v := (0 : Int32)) (pc' := 1) hE dX8_flows_0 rfl (by decide) ?_
  refine jv_istore_n (x := (0 : Int32)) (L' := [some (.ref 35), some (.int p1), some (.int p2), some (.int (0 : Int32)), none, none]) (pc' := 2) hE dX8_flows_1 rfl 3 rfl (by decide) rfl rfl ?_
  obtain ⟨q5, hq5, h⟩ := jv_bd_some h
  refine jv_forget [true, true, true, true, true, true] (lp_X8_flows_2 hE jv_fuel (0 : Int32) σ _ hq5 ?_)
  refine jv_iconst (v := (1 : Int32)) (pc' := 32) hE dX8_flows_31 rfl (by decide) ?_
  refine jv_istore_n (x := (1 : Int32)) (L' := [some (.ref 35), some (.int p1), some (.int p2), some (.int (1 : Int32)), none, none]) (pc' := 33) hE dX8_flows_32 rfl 3 rfl (by decide) rfl rfl ?_
  obtain ⟨q8, hq8, h⟩ := jv_bd_some h
  refine jv_forget [true, true, true, true, true, true] (lp_X8_flows_33 hE jv_fuel true q5.2 _ hq8 ?_)
  refine jv_aload_n (x := 35) (pc' := 171) hE dX8_flows_170 rfl 0 rfl rfl ?_
  refine jv_get (v := .ref 57) (pc' := 174) hE dX8_flows_171 rfl lF_X8_78 rfl rfl rfl ?_
  refine jv_bipush (v := (10 : Int32)) (pc' := 176) hE dX8_flows_174 rfl (by decide) ?_
  refine jv_iload_n (x := p2) (pc' := 177) hE dX8_flows_176 rfl 2 rfl rfl ?_
  refine jv_iadd (x := (10 : Int32)) (y := p2) (pc' := 178) hE dX8_flows_177 rfl ?_
  by_cases c9 : jv_ck ((10 : Int32) + p2) 20 = true
  · rw [if_pos c9] at h
    refine jv_iald (pc' := 179) hE dX8_flows_178 rfl rfl (jv_ck_in c9) ?_
    show jv_V E 179 [some (.ref 35), some (.int p1), some (.int p2), none, none, none] [.int (q8.2.1 57 ((10 : Int32) + p2).toNatClampNeg)] q8.2
    refine jv_ldc (v := (1000000000 : Int32)) (pc' := 181) hE dX8_flows_179 rfl lC_X8_130 ?_
    obtain ⟨q11, hq11, h⟩ := jv_lt_eq h
    have kq11 : jv_V E 192 [some (.ref 35), some (.int p1), some (.int p2), none, none, none] [.int q11] q8.2 := by
      refine jv_istore (x := q11) (L' := [some (.ref 35), some (.int p1), some (.int p2), none, some (.int q11), none]) (pc' := 194) hE dX8_flows_192 rfl (by decide) rfl rfl ?_
      obtain ⟨q21, hq21, h⟩ := jv_bd_some h
      refine jv_forget [true, true, true, true, true, true] (lp_X8_flows_194 hE jv_fuel q11 q8.2 _ hq21 ?_)
      refine jv_aload_n (x := 35) (pc' := 260) hE dX8_flows_259 rfl 0 rfl rfl ?_
      refine jv_get (v := .ref 57) (pc' := 263) hE dX8_flows_260 rfl lF_X8_78 rfl rfl rfl ?_
      refine jv_bipush (v := (10 : Int32)) (pc' := 265) hE dX8_flows_263 rfl (by decide) ?_
      refine jv_iload_n (x := p2) (pc' := 266) hE dX8_flows_265 rfl 2 rfl rfl ?_
      refine jv_iadd (x := (10 : Int32)) (y := p2) (pc' := 267) hE dX8_flows_266 rfl ?_
      by_cases c22 : jv_ck ((10 : Int32) + p2) 20 = true
      · rw [if_pos c22] at h
        refine jv_iald (pc' := 268) hE dX8_flows_267 rfl rfl (jv_ck_in c22) ?_
        show jv_V E 268 [some (.ref 35), none, some (.int p2), none, none, none] [.int (q21.2.1 57 ((10 : Int32) + p2).toNatClampNeg)] q21.2
        cases h
        exact hret _ _ dX8_flows_268
      · rw [if_neg c22] at h; cases h
    refine jv_icmp_ne (x := (q8.2.1 57 ((10 : Int32) + p2).toNatClampNeg)) (y := (1000000000 : Int32)) (tgt := 188) (pc' := 184) hE dX8_flows_181 (by decide) rfl (fun c10 => ?_) (fun c10 => ?_)
    · rw [if_neg c10] at hq11
      refine jv_bipush (v := (10 : Int32)) (pc' := 190) hE dX8_flows_188 rfl (by decide) ?_
      refine jv_iload_n (x := p2) (pc' := 191) hE dX8_flows_190 rfl 2 rfl rfl ?_
      refine jv_iadd (x := (10 : Int32)) (y := p2) (pc' := 192) hE dX8_flows_191 rfl ?_
      cases hq11
      exact jv_forget [true, true, true, true, true, true] kq11
    · rw [if_pos c10] at hq11
      refine jv_iload_n (x := p1) (pc' := 185) hE dX8_flows_184 rfl 1 rfl rfl ?_
      refine jv_goto (tgt := 192) hE dX8_flows_185 (by decide) ?_
      cases hq11
      exact jv_forget [true, true, true, true, true, true] kq11
  · rw [if_neg c9] at h; cases h
noncomputable def f_X8_many_lp10 (a1 : Int32) (a2 : Int32) : Nat → Int32 → jv_S → Option (Int32 × jv_S)
  | 0, _, _ => none
  | n + 1, v4, σ => jv_bd (f_X8_flows σ a1 a2) (fun q2 => if (1000000000 : Int32) ≤ q2.1 then (some (v4, q2.2)) else (f_X8_many_lp10 a1 a2 n (v4 + (1 : Int32)) q2.2))
noncomputable def f_X8_many (σ : jv_S) (p1 : Int32) (p2 : Int32) (p3 : Int32) : Option (Int32 × jv_S) := jv_bd (f_X8_laysArcs σ p1 p2 p3) (fun q1 => jv_bd (f_X8_many_lp10 p1 p2 jv_fuel (0 : Int32) q1) (fun q4 => some (q4.1, q4.2)))
set_option maxRecDepth 100000 in
set_option maxHeartbeats 4000000 in
theorem lp_X8_many_10 {a1 : Int32} {a2 : Int32} {E : jv_E} (hE : jv_Cx E RX8 cX8_many 5 3) : ∀ (n : Nat) (v4 : Int32) (σ : jv_S) (q : Int32 × jv_S), f_X8_many_lp10 a1 a2 n v4 σ = some q → (jv_V E 27 [none, none, none, none, some (.int q.1)] [] q.2) → jv_V E 10 [some (.ref 35), some (.int a1), some (.int a2), none, some (.int v4)] [] σ := by
  intro n
  induction n with
  | zero =>
    intro v4 σ q h
    rw [f_X8_many_lp10] at h
    cases h
  | succ n ih =>
    intro v4 σ q h hk
    rw [f_X8_many_lp10] at h
    refine jv_aload_n (x := 35) (pc' := 11) hE dX8_many_10 rfl 0 rfl rfl ?_
    refine jv_iload_n (x := a1) (pc' := 12) hE dX8_many_11 rfl 1 rfl rfl ?_
    refine jv_iload_n (x := a2) (pc' := 13) hE dX8_many_12 rfl 2 rfl rfl ?_
    obtain ⟨q2, hq2, h⟩ := jv_bd_some h
    refine jv_callV (pc' := 16) (o := some (.int q2.1)) (σ' := q2.2) hE dX8_many_13 rfl lV_X8_214 (ok_X8_flows hq2) rfl rfl rfl (by decide) rfl (Nat.le_of_ble_eq_true rfl) ?_
    show jv_V E 16 [some (.ref 35), some (.int a1), some (.int a2), none, some (.int v4)] [.int q2.1] q2.2
    refine jv_ldc (v := (1000000000 : Int32)) (pc' := 18) hE dX8_many_16 rfl lC_X8_130 ?_
    refine jv_icmp_ge (x := q2.1) (y := (1000000000 : Int32)) (tgt := 27) (pc' := 21) hE dX8_many_18 (by decide) rfl (fun c3 => ?_) (fun c3 => ?_)
    · rw [if_pos c3] at h
      cases h
      exact jv_forget [false, false, false, true, true] hk
    · rw [if_neg c3] at h
      refine jv_iinc (x := v4) (v := (v4 + (1 : Int32))) (L' := [some (.ref 35), some (.int a1), some (.int a2), none, some (.int (v4 + (1 : Int32)))]) (pc' := 24) hE dX8_many_21 rfl rfl rfl (by decide) rfl rfl ?_
      refine jv_goto (tgt := 10) hE dX8_many_24 (by decide) ?_
      exact jv_forget [true, true, true, true, true] (ih (v4 + (1 : Int32)) q2.2 _ h hk)
set_option maxRecDepth 100000 in
set_option maxHeartbeats 4000000 in
theorem ok_X8_many {G : jv_G} {l : Launch} {σ : jv_S} {p1 : Int32} {p2 : Int32} {p3 : Int32} {r : Int32 × jv_S} (h : f_X8_many σ p1 p2 p3 = some r) : jv_Cn G l 3 M_X8_many [.ref 35, .int p1, .int p2, .int p3] σ (some (.int r.1)) r.2 := by
  refine jv_of (L0 := [some (.ref 35), some (.int p1), some (.int p2), some (.int p3), none]) (by decide +kernel) (Nat.le_of_ble_eq_true rfl) rfl (jv_okI _) (fun E e1 e2 hE hret => ?_)
  unfold f_X8_many at h
  refine jv_iconst (v := (0 : Int32)) (pc' := 1) hE dX8_many_0 rfl (by decide) ?_
  refine jv_istore (x := (0 : Int32)) (L' := [some (.ref 35), some (.int p1), some (.int p2), some (.int p3), some (.int (0 : Int32))]) (pc' := 3) hE dX8_many_1 rfl (by decide) rfl rfl ?_
  refine jv_aload_n (x := 35) (pc' := 4) hE dX8_many_3 rfl 0 rfl rfl ?_
  refine jv_iload_n (x := p1) (pc' := 5) hE dX8_many_4 rfl 1 rfl rfl ?_
  refine jv_iload_n (x := p2) (pc' := 6) hE dX8_many_5 rfl 2 rfl rfl ?_
  refine jv_iload_n (x := p3) (pc' := 7) hE dX8_many_6 rfl 3 rfl rfl ?_
  obtain ⟨q1, hq1, h⟩ := jv_bd_some h
  refine jv_callV (pc' := 10) (o := none) (σ' := q1) hE dX8_many_7 rfl lV_X8_210 (ok_X8_laysArcs hq1) rfl rfl rfl (by decide) rfl (Nat.le_of_ble_eq_true rfl) ?_
  show jv_V E 10 [some (.ref 35), some (.int p1), some (.int p2), some (.int p3), some (.int (0 : Int32))] [] q1
  obtain ⟨q4, hq4, h⟩ := jv_bd_some h
  refine jv_forget [true, true, true, false, true] (lp_X8_many_10 hE jv_fuel (0 : Int32) q1 _ hq4 ?_)
  refine jv_iload (x := q4.1) (pc' := 29) hE dX8_many_27 rfl rfl ?_
  cases h
  exact hret _ _ dX8_many_29
noncomputable def f_X8_disjointPaths (σ : jv_S) (p1 : Int32) (p2 : Int32) (p3 : Int32) : Option (Int32 × jv_S) := jv_lt (if (f_X8_areTwo σ p1 p2) = true then (false) else (true)) (fun q2 => jv_lt (f_X8_holds σ (jv_b q2)) (fun q3 => jv_bd (if q3.1 = true then (jv_bd (f_X8_many q3.2 p1 p2 p3) (fun q6 => some (q6.1, q6.2))) else (some ((0 : Int32), q3.2))) (fun q5 => some (q5.1, q5.2))))
set_option maxRecDepth 100000 in
set_option maxHeartbeats 4000000 in
theorem ok_X8_disjointPaths {G : jv_G} {l : Launch} {σ : jv_S} {p1 : Int32} {p2 : Int32} {p3 : Int32} {r : Int32 × jv_S} (h : f_X8_disjointPaths σ p1 p2 p3 = some r) : jv_Cn G l 5 M_X8_disjointPaths [.ref 35, .int p1, .int p2, .int p3] σ (some (.int r.1)) r.2 := by
  refine jv_of (L0 := [some (.ref 35), some (.int p1), some (.int p2), some (.int p3)]) (by decide +kernel) (Nat.le_of_ble_eq_true rfl) rfl (jv_okI _) (fun E e1 e2 hE hret => ?_)
  unfold f_X8_disjointPaths at h
  refine jv_aload_n (x := 35) (pc' := 1) hE dX8_disjointPaths_0 rfl 0 rfl rfl ?_
  refine jv_aload_n (x := 35) (pc' := 2) hE dX8_disjointPaths_1 rfl 0 rfl rfl ?_
  refine jv_iload_n (x := p1) (pc' := 3) hE dX8_disjointPaths_2 rfl 1 rfl rfl ?_
  refine jv_iload_n (x := p2) (pc' := 4) hE dX8_disjointPaths_3 rfl 2 rfl rfl ?_
  refine jv_callV (pc' := 7) (o := some (.int (jv_b (f_X8_areTwo σ p1 p2)))) (σ' := σ) hE dX8_disjointPaths_4 rfl lV_X8_121 (ok_X8_areTwo rfl) rfl rfl rfl (by decide) rfl (Nat.le_of_ble_eq_true rfl) ?_
  show jv_V E 7 [some (.ref 35), some (.int p1), some (.int p2), some (.int p3)] [.int (jv_b (f_X8_areTwo σ p1 p2)), .ref 35] σ
  obtain ⟨q2, hq2, h⟩ := jv_lt_eq h
  have kq2 : jv_V E 15 [some (.ref 35), some (.int p1), some (.int p2), some (.int p3)] [.int (jv_b q2), .ref 35] σ := by
    obtain ⟨q3, hq3, h⟩ := jv_lt_eq h
    refine jv_callV (pc' := 18) (o := some (.int (jv_b q3.1))) (σ' := q3.2) hE dX8_disjointPaths_15 rfl lV_X8_115 (ok_X8_holds hq3) rfl rfl rfl (by decide) rfl (Nat.le_of_ble_eq_true rfl) ?_
    show jv_V E 18 [some (.ref 35), some (.int p1), some (.int p2), some (.int p3)] [.int (jv_b q3.1)] q3.2
    obtain ⟨q5, hq5, h⟩ := jv_bd_some h
    have kq5 : jv_V E 32 [none, none, none, none] [.int q5.1] q5.2 := by
      cases h
      exact hret _ _ dX8_disjointPaths_32
    refine jv_if_eq (x := (jv_b q3.1)) (tgt := 31) (pc' := 21) hE dX8_disjointPaths_18 (by decide) rfl (fun c4 => ?_) (fun c4 => ?_)
    · have c4 := jv_b0 c4
      rw [if_neg c4] at hq5
      refine jv_iconst (v := (0 : Int32)) (pc' := 32) hE dX8_disjointPaths_31 rfl (by decide) ?_
      cases hq5
      exact jv_forget [false, false, false, false] kq5
    · have c4 := jv_b1 c4
      rw [if_pos c4] at hq5
      refine jv_aload_n (x := 35) (pc' := 22) hE dX8_disjointPaths_21 rfl 0 rfl rfl ?_
      refine jv_iload_n (x := p1) (pc' := 23) hE dX8_disjointPaths_22 rfl 1 rfl rfl ?_
      refine jv_iload_n (x := p2) (pc' := 24) hE dX8_disjointPaths_23 rfl 2 rfl rfl ?_
      refine jv_iload_n (x := p3) (pc' := 25) hE dX8_disjointPaths_24 rfl 3 rfl rfl ?_
      obtain ⟨q6, hq6, hq5⟩ := jv_bd_some hq5
      refine jv_callV (pc' := 28) (o := some (.int q6.1)) (σ' := q6.2) hE dX8_disjointPaths_25 rfl lV_X8_217 (ok_X8_many hq6) rfl rfl rfl (by decide) rfl (Nat.le_of_ble_eq_true rfl) ?_
      show jv_V E 28 [some (.ref 35), some (.int p1), some (.int p2), some (.int p3)] [.int q6.1] q6.2
      refine jv_goto (tgt := 32) hE dX8_disjointPaths_28 (by decide) ?_
      cases hq5
      exact jv_forget [false, false, false, false] kq5
  refine jv_if_eq (x := (jv_b (f_X8_areTwo σ p1 p2))) (tgt := 14) (pc' := 10) hE dX8_disjointPaths_7 (by decide) rfl (fun c1 => ?_) (fun c1 => ?_)
  · have c1 := jv_b0 c1
    rw [if_neg c1] at hq2
    refine jv_iconst (v := (1 : Int32)) (pc' := 15) hE dX8_disjointPaths_14 rfl (by decide) ?_
    cases hq2
    exact jv_forget [true, true, true, true] kq2
  · have c1 := jv_b1 c1
    rw [if_pos c1] at hq2
    refine jv_iconst (v := (0 : Int32)) (pc' := 11) hE dX8_disjointPaths_10 rfl (by decide) ?_
    refine jv_goto (tgt := 15) hE dX8_disjointPaths_11 (by decide) ?_
    cases hq2
    exact jv_forget [true, true, true, true] kq2
noncomputable def f_X8_together_lp14 (a1 : Int32) (a2 : Int32) (a3 : Int32) : Nat → Int32 → Int32 → jv_S → Option (Int32 × Int32 × jv_S)
  | 0, _, _, _ => none
  | n + 1, v5, v6, σ => if a3 ≤ v6 then (some (v5, v6, σ)) else (if (1000000000 : Int32) ≤ v5 then (some (v5, v6, σ)) else (jv_bd (f_X8_flows σ a1 a2) (fun q4 => jv_lt (if q4.1 = (1000000000 : Int32) then ((1000000000 : Int32)) else ((v5 + q4.1))) (fun q6 => f_X8_together_lp14 a1 a2 a3 n q6 (v6 + (1 : Int32)) q4.2))))
noncomputable def f_X8_together (σ : jv_S) (p1 : Int32) (p2 : Int32) (p3 : Int32) (p4 : Int32) : Option (Int32 × jv_S) := jv_bd (f_X8_laysArcs σ p1 p2 p4) (fun q1 => jv_bd (f_X8_together_lp14 p1 p2 p3 jv_fuel (0 : Int32) (0 : Int32) q1) (fun q7 => some (q7.1, q7.2.2)))
set_option maxRecDepth 100000 in
set_option maxHeartbeats 4000000 in
theorem lp_X8_together_14 {a1 : Int32} {a2 : Int32} {a3 : Int32} {E : jv_E} (hE : jv_Cx E RX8 cX8_together 8 3) : ∀ (n : Nat) (v5 : Int32) (v6 : Int32) (σ : jv_S) (q : Int32 × Int32 × jv_S), f_X8_together_lp14 a1 a2 a3 n v5 v6 σ = some q → (jv_V E 60 [none, none, none, none, none, some (.int q.1), none, none] [] q.2.2) → jv_V E 14 [some (.ref 35), some (.int a1), some (.int a2), some (.int a3), none, some (.int v5), some (.int v6), none] [] σ := by
  intro n
  induction n with
  | zero =>
    intro v5 v6 σ q h
    rw [f_X8_together_lp14] at h
    cases h
  | succ n ih =>
    intro v5 v6 σ q h hk
    rw [f_X8_together_lp14] at h
    refine jv_iload (x := v6) (pc' := 16) hE dX8_together_14 rfl rfl ?_
    refine jv_iload_n (x := a3) (pc' := 17) hE dX8_together_16 rfl 3 rfl rfl ?_
    refine jv_icmp_ge (x := v6) (y := a3) (tgt := 60) (pc' := 20) hE dX8_together_17 (by decide) rfl (fun c2 => ?_) (fun c2 => ?_)
    · rw [if_pos c2] at h
      cases h
      exact jv_forget [false, false, false, false, true, true, false, true] hk
    · rw [if_neg c2] at h
      refine jv_iload (x := v5) (pc' := 22) hE dX8_together_20 rfl rfl ?_
      refine jv_ldc (v := (1000000000 : Int32)) (pc' := 24) hE dX8_together_22 rfl lC_X8_130 ?_
      refine jv_icmp_ge (x := v5) (y := (1000000000 : Int32)) (tgt := 60) (pc' := 27) hE dX8_together_24 (by decide) rfl (fun c3 => ?_) (fun c3 => ?_)
      · rw [if_pos c3] at h
        cases h
        exact jv_forget [false, false, false, false, true, true, false, true] hk
      · rw [if_neg c3] at h
        refine jv_aload_n (x := 35) (pc' := 28) hE dX8_together_27 rfl 0 rfl rfl ?_
        refine jv_iload_n (x := a1) (pc' := 29) hE dX8_together_28 rfl 1 rfl rfl ?_
        refine jv_iload_n (x := a2) (pc' := 30) hE dX8_together_29 rfl 2 rfl rfl ?_
        obtain ⟨q4, hq4, h⟩ := jv_bd_some h
        refine jv_callV (pc' := 33) (o := some (.int q4.1)) (σ' := q4.2) hE dX8_together_30 rfl lV_X8_214 (ok_X8_flows hq4) rfl rfl rfl (by decide) rfl (Nat.le_of_ble_eq_true rfl) ?_
        show jv_V E 33 [some (.ref 35), some (.int a1), some (.int a2), some (.int a3), none, some (.int v5), some (.int v6), none] [.int q4.1] q4.2
        refine jv_istore (x := q4.1) (L' := [some (.ref 35), some (.int a1), some (.int a2), some (.int a3), none, some (.int v5), some (.int v6), some (.int q4.1)]) (pc' := 35) hE dX8_together_33 rfl (by decide) rfl rfl ?_
        refine jv_iload (x := q4.1) (pc' := 37) hE dX8_together_35 rfl rfl ?_
        refine jv_ldc (v := (1000000000 : Int32)) (pc' := 39) hE dX8_together_37 rfl lC_X8_130 ?_
        obtain ⟨q6, hq6, h⟩ := jv_lt_eq h
        have kq6 : jv_V E 52 [some (.ref 35), some (.int a1), some (.int a2), some (.int a3), none, none, some (.int v6), none] [.int q6] q4.2 := by
          refine jv_istore (x := q6) (L' := [some (.ref 35), some (.int a1), some (.int a2), some (.int a3), none, some (.int q6), some (.int v6), none]) (pc' := 54) hE dX8_together_52 rfl (by decide) rfl rfl ?_
          refine jv_iinc (x := v6) (v := (v6 + (1 : Int32))) (L' := [some (.ref 35), some (.int a1), some (.int a2), some (.int a3), none, some (.int q6), some (.int (v6 + (1 : Int32))), none]) (pc' := 57) hE dX8_together_54 rfl rfl rfl (by decide) rfl rfl ?_
          refine jv_goto (tgt := 14) hE dX8_together_57 (by decide) ?_
          exact jv_forget [true, true, true, true, true, true, true, true] (ih q6 (v6 + (1 : Int32)) q4.2 _ h hk)
        refine jv_icmp_ne (x := q4.1) (y := (1000000000 : Int32)) (tgt := 47) (pc' := 42) hE dX8_together_39 (by decide) rfl (fun c5 => ?_) (fun c5 => ?_)
        · rw [if_neg c5] at hq6
          refine jv_iload (x := v5) (pc' := 49) hE dX8_together_47 rfl rfl ?_
          refine jv_iload (x := q4.1) (pc' := 51) hE dX8_together_49 rfl rfl ?_
          refine jv_iadd (x := v5) (y := q4.1) (pc' := 52) hE dX8_together_51 rfl ?_
          cases hq6
          exact jv_forget [true, true, true, true, true, false, true, false] kq6
        · rw [if_pos c5] at hq6
          refine jv_ldc (v := (1000000000 : Int32)) (pc' := 44) hE dX8_together_42 rfl lC_X8_130 ?_
          refine jv_goto (tgt := 52) hE dX8_together_44 (by decide) ?_
          cases hq6
          exact jv_forget [true, true, true, true, true, false, true, false] kq6
set_option maxRecDepth 100000 in
set_option maxHeartbeats 4000000 in
theorem ok_X8_together {G : jv_G} {l : Launch} {σ : jv_S} {p1 : Int32} {p2 : Int32} {p3 : Int32} {p4 : Int32} {r : Int32 × jv_S} (h : f_X8_together σ p1 p2 p3 p4 = some r) : jv_Cn G l 3 M_X8_together [.ref 35, .int p1, .int p2, .int p3, .int p4] σ (some (.int r.1)) r.2 := by
  refine jv_of (L0 := [some (.ref 35), some (.int p1), some (.int p2), some (.int p3), some (.int p4), none, none, none]) (by decide +kernel) (Nat.le_of_ble_eq_true rfl) rfl (jv_okI _) (fun E e1 e2 hE hret => ?_)
  unfold f_X8_together at h
  refine jv_iconst (v := (0 : Int32)) (pc' := 1) hE dX8_together_0 rfl (by decide) ?_
  refine jv_istore (x := (0 : Int32)) (L' := [some (.ref 35), some (.int p1), some (.int p2), some (.int p3), some (.int p4), some (.int (0 : Int32)), none, none]) (pc' := 3) hE dX8_together_1 rfl (by decide) rfl rfl ?_
  refine jv_aload_n (x := 35) (pc' := 4) hE dX8_together_3 rfl 0 rfl rfl ?_
  refine jv_iload_n (x := p1) (pc' := 5) hE dX8_together_4 rfl 1 rfl rfl ?_
  refine jv_iload_n (x := p2) (pc' := 6) hE dX8_together_5 rfl 2 rfl rfl ?_
  refine jv_iload (x := p4) (pc' := 8) hE dX8_together_6 rfl rfl ?_
  obtain ⟨q1, hq1, h⟩ := jv_bd_some h
  refine jv_callV (pc' := 11) (o := none) (σ' := q1) hE dX8_together_8 rfl lV_X8_210 (ok_X8_laysArcs hq1) rfl rfl rfl (by decide) rfl (Nat.le_of_ble_eq_true rfl) ?_
  show jv_V E 11 [some (.ref 35), some (.int p1), some (.int p2), some (.int p3), some (.int p4), some (.int (0 : Int32)), none, none] [] q1
  refine jv_iconst (v := (0 : Int32)) (pc' := 12) hE dX8_together_11 rfl (by decide) ?_
  refine jv_istore (x := (0 : Int32)) (L' := [some (.ref 35), some (.int p1), some (.int p2), some (.int p3), some (.int p4), some (.int (0 : Int32)), some (.int (0 : Int32)), none]) (pc' := 14) hE dX8_together_12 rfl (by decide) rfl rfl ?_
  obtain ⟨q7, hq7, h⟩ := jv_bd_some h
  refine jv_forget [true, true, true, true, false, true, true, true] (lp_X8_together_14 hE jv_fuel (0 : Int32) (0 : Int32) q1 _ hq7 ?_)
  refine jv_iload (x := q7.1) (pc' := 62) hE dX8_together_60 rfl rfl ?_
  cases h
  exact hret _ _ dX8_together_62
noncomputable def f_X8_disjointLength (σ : jv_S) (p1 : Int32) (p2 : Int32) (p3 : Int32) (p4 : Int32) : Option (Int32 × jv_S) := jv_lt (if (f_X8_areTwo σ p1 p2) = true then (if (f_X8_in σ p3 (1 : Int32) (4 : Int32)) = true then (true) else (false)) else (false)) (fun q2 => jv_bd (if q2 = true then (jv_bd (f_X8_together σ p1 p2 p3 p4) (fun q6 => some (q6.1, q6.2))) else (some ((0 : Int32), σ))) (fun q5 => jv_lt (if q2 = true then (if q5.1 = (1000000000 : Int32) then ((2 : Int32)) else ((0 : Int32))) else ((1 : Int32))) (fun q8 => jv_lt (f_X8_holds q5.2 q8) (fun q10 => jv_lt (if q10.1 = true then (q5.1) else ((0 : Int32))) (fun q12 => some (q12, q10.2))))))
set_option maxRecDepth 100000 in
set_option maxHeartbeats 4000000 in
theorem ok_X8_disjointLength {G : jv_G} {l : Launch} {σ : jv_S} {p1 : Int32} {p2 : Int32} {p3 : Int32} {p4 : Int32} {r : Int32 × jv_S} (h : f_X8_disjointLength σ p1 p2 p3 p4 = some r) : jv_Cn G l 5 M_X8_disjointLength [.ref 35, .int p1, .int p2, .int p3, .int p4] σ (some (.int r.1)) r.2 := by
  refine jv_of (L0 := [some (.ref 35), some (.int p1), some (.int p2), some (.int p3), some (.int p4), none, none]) (by decide +kernel) (Nat.le_of_ble_eq_true rfl) rfl (jv_okI _) (fun E e1 e2 hE hret => ?_)
  unfold f_X8_disjointLength at h
  refine jv_aload_n (x := 35) (pc' := 1) hE dX8_disjointLength_0 rfl 0 rfl rfl ?_
  refine jv_iload_n (x := p1) (pc' := 2) hE dX8_disjointLength_1 rfl 1 rfl rfl ?_
  refine jv_iload_n (x := p2) (pc' := 3) hE dX8_disjointLength_2 rfl 2 rfl rfl ?_
  refine jv_callV (pc' := 6) (o := some (.int (jv_b (f_X8_areTwo σ p1 p2)))) (σ' := σ) hE dX8_disjointLength_3 rfl lV_X8_121 (ok_X8_areTwo rfl) rfl rfl rfl (by decide) rfl (Nat.le_of_ble_eq_true rfl) ?_
  show jv_V E 6 [some (.ref 35), some (.int p1), some (.int p2), some (.int p3), some (.int p4), none, none] [.int (jv_b (f_X8_areTwo σ p1 p2))] σ
  obtain ⟨q2, hq2, h⟩ := jv_lt_eq h
  have kq2 : jv_V E 23 [some (.ref 35), some (.int p1), some (.int p2), some (.int p3), some (.int p4), none, none] [.int (jv_b q2)] σ := by
    refine jv_istore (x := (jv_b q2)) (L' := [some (.ref 35), some (.int p1), some (.int p2), some (.int p3), some (.int p4), some (.int (jv_b q2)), none]) (pc' := 25) hE dX8_disjointLength_23 rfl (by decide) rfl rfl ?_
    refine jv_iload (x := (jv_b q2)) (pc' := 27) hE dX8_disjointLength_25 rfl rfl ?_
    obtain ⟨q5, hq5, h⟩ := jv_bd_some h
    have kq5 : jv_V E 43 [some (.ref 35), none, none, none, none, some (.int (jv_b q2)), none] [.int q5.1] q5.2 := by
      refine jv_istore (x := q5.1) (L' := [some (.ref 35), none, none, none, none, some (.int (jv_b q2)), some (.int q5.1)]) (pc' := 45) hE dX8_disjointLength_43 rfl (by decide) rfl rfl ?_
      refine jv_aload_n (x := 35) (pc' := 46) hE dX8_disjointLength_45 rfl 0 rfl rfl ?_
      refine jv_iload (x := (jv_b q2)) (pc' := 48) hE dX8_disjointLength_46 rfl rfl ?_
      obtain ⟨q8, hq8, h⟩ := jv_lt_eq h
      have kq8 : jv_V E 67 [none, none, none, none, none, none, some (.int q5.1)] [.int q8, .ref 35] q5.2 := by
        obtain ⟨q10, hq10, h⟩ := jv_lt_eq h
        refine jv_callV (pc' := 70) (o := some (.int (jv_b q10.1))) (σ' := q10.2) hE dX8_disjointLength_67 rfl lV_X8_115 (ok_X8_holds hq10) rfl rfl rfl (by decide) rfl (Nat.le_of_ble_eq_true rfl) ?_
        show jv_V E 70 [none, none, none, none, none, none, some (.int q5.1)] [.int (jv_b q10.1)] q10.2
        obtain ⟨q12, hq12, h⟩ := jv_lt_eq h
        have kq12 : jv_V E 79 [none, none, none, none, none, none, none] [.int q12] q10.2 := by
          cases h
          exact hret _ _ dX8_disjointLength_79
        refine jv_if_eq (x := (jv_b q10.1)) (tgt := 78) (pc' := 73) hE dX8_disjointLength_70 (by decide) rfl (fun c11 => ?_) (fun c11 => ?_)
        · have c11 := jv_b0 c11
          rw [if_neg c11] at hq12
          refine jv_iconst (v := (0 : Int32)) (pc' := 79) hE dX8_disjointLength_78 rfl (by decide) ?_
          cases hq12
          exact jv_forget [true, true, true, true, true, true, false] kq12
        · have c11 := jv_b1 c11
          rw [if_pos c11] at hq12
          refine jv_iload (x := q5.1) (pc' := 75) hE dX8_disjointLength_73 rfl rfl ?_
          refine jv_goto (tgt := 79) hE dX8_disjointLength_75 (by decide) ?_
          cases hq12
          exact jv_forget [true, true, true, true, true, true, false] kq12
      refine jv_if_ne (x := (jv_b q2)) (tgt := 55) (pc' := 51) hE dX8_disjointLength_48 (by decide) rfl (fun c7 => ?_) (fun c7 => ?_)
      · have c7 := jv_b1 c7
        rw [if_pos c7] at hq8
        refine jv_iload (x := q5.1) (pc' := 57) hE dX8_disjointLength_55 rfl rfl ?_
        refine jv_ldc (v := (1000000000 : Int32)) (pc' := 59) hE dX8_disjointLength_57 rfl lC_X8_130 ?_
        refine jv_icmp_ne (x := q5.1) (y := (1000000000 : Int32)) (tgt := 66) (pc' := 62) hE dX8_disjointLength_59 (by decide) rfl (fun c9 => ?_) (fun c9 => ?_)
        · rw [if_neg c9] at hq8
          refine jv_iconst (v := (0 : Int32)) (pc' := 67) hE dX8_disjointLength_66 rfl (by decide) ?_
          cases hq8
          exact jv_forget [false, true, true, true, true, false, true] kq8
        · rw [if_pos c9] at hq8
          refine jv_iconst (v := (2 : Int32)) (pc' := 63) hE dX8_disjointLength_62 rfl (by decide) ?_
          refine jv_goto (tgt := 67) hE dX8_disjointLength_63 (by decide) ?_
          cases hq8
          exact jv_forget [false, true, true, true, true, false, true] kq8
      · have c7 := jv_b0 c7
        rw [if_neg c7] at hq8
        refine jv_iconst (v := (1 : Int32)) (pc' := 52) hE dX8_disjointLength_51 rfl (by decide) ?_
        refine jv_goto (tgt := 67) hE dX8_disjointLength_52 (by decide) ?_
        cases hq8
        exact jv_forget [false, true, true, true, true, false, true] kq8
    refine jv_if_eq (x := (jv_b q2)) (tgt := 42) (pc' := 30) hE dX8_disjointLength_27 (by decide) rfl (fun c4 => ?_) (fun c4 => ?_)
    · have c4 := jv_b0 c4
      rw [if_neg c4] at hq5
      refine jv_iconst (v := (0 : Int32)) (pc' := 43) hE dX8_disjointLength_42 rfl (by decide) ?_
      cases hq5
      exact jv_forget [true, false, false, false, false, true, true] kq5
    · have c4 := jv_b1 c4
      rw [if_pos c4] at hq5
      refine jv_aload_n (x := 35) (pc' := 31) hE dX8_disjointLength_30 rfl 0 rfl rfl ?_
      refine jv_iload_n (x := p1) (pc' := 32) hE dX8_disjointLength_31 rfl 1 rfl rfl ?_
      refine jv_iload_n (x := p2) (pc' := 33) hE dX8_disjointLength_32 rfl 2 rfl rfl ?_
      refine jv_iload_n (x := p3) (pc' := 34) hE dX8_disjointLength_33 rfl 3 rfl rfl ?_
      refine jv_iload (x := p4) (pc' := 36) hE dX8_disjointLength_34 rfl rfl ?_
      obtain ⟨q6, hq6, hq5⟩ := jv_bd_some hq5
      refine jv_callV (pc' := 39) (o := some (.int q6.1)) (σ' := q6.2) hE dX8_disjointLength_36 rfl lV_X8_221 (ok_X8_together hq6) rfl rfl rfl (by decide) rfl (Nat.le_of_ble_eq_true rfl) ?_
      show jv_V E 39 [some (.ref 35), some (.int p1), some (.int p2), some (.int p3), some (.int p4), some (.int (jv_b q2)), none] [.int q6.1] q6.2
      refine jv_goto (tgt := 43) hE dX8_disjointLength_39 (by decide) ?_
      cases hq5
      exact jv_forget [true, false, false, false, false, true, true] kq5
  refine jv_if_eq (x := (jv_b (f_X8_areTwo σ p1 p2))) (tgt := 22) (pc' := 9) hE dX8_disjointLength_6 (by decide) rfl (fun c1 => ?_) (fun c1 => ?_)
  · have c1 := jv_b0 c1
    rw [if_neg c1] at hq2
    refine jv_iconst (v := (0 : Int32)) (pc' := 23) hE dX8_disjointLength_22 rfl (by decide) ?_
    cases hq2
    exact jv_forget [true, true, true, true, true, true, true] kq2
  · have c1 := jv_b1 c1
    rw [if_pos c1] at hq2
    refine jv_iload_n (x := p3) (pc' := 10) hE dX8_disjointLength_9 rfl 3 rfl rfl ?_
    refine jv_iconst (v := (1 : Int32)) (pc' := 11) hE dX8_disjointLength_10 rfl (by decide) ?_
    refine jv_iconst (v := (4 : Int32)) (pc' := 12) hE dX8_disjointLength_11 rfl (by decide) ?_
    refine jv_callS (pc' := 15) (o := some (.int (jv_b (f_X8_in σ p3 (1 : Int32) (4 : Int32))))) (σ' := σ) hE dX8_disjointLength_12 rfl lS_X8_93 (ok_X8_in rfl) rfl (by decide) rfl (Nat.le_of_ble_eq_true rfl) ?_
    show jv_V E 15 [some (.ref 35), some (.int p1), some (.int p2), some (.int p3), some (.int p4), none, none] [.int (jv_b (f_X8_in σ p3 (1 : Int32) (4 : Int32)))] σ
    refine jv_if_eq (x := (jv_b (f_X8_in σ p3 (1 : Int32) (4 : Int32)))) (tgt := 22) (pc' := 18) hE dX8_disjointLength_15 (by decide) rfl (fun c3 => ?_) (fun c3 => ?_)
    · have c3 := jv_b0 c3
      rw [if_neg c3] at hq2
      refine jv_iconst (v := (0 : Int32)) (pc' := 23) hE dX8_disjointLength_22 rfl (by decide) ?_
      cases hq2
      exact jv_forget [true, true, true, true, true, true, true] kq2
    · have c3 := jv_b1 c3
      rw [if_pos c3] at hq2
      refine jv_iconst (v := (1 : Int32)) (pc' := 19) hE dX8_disjointLength_18 rfl (by decide) ?_
      refine jv_goto (tgt := 23) hE dX8_disjointLength_19 (by decide) ?_
      cases hq2
      exact jv_forget [true, true, true, true, true, true, true] kq2
noncomputable def f_X8_mayFollow (σ : jv_S) (p1 : Int32) (p2 : Int32) : Option (Bool) := jv_bd (f_X8_isUsable σ p2) (fun q1 => jv_bd (if q1 = true then (if jv_ck p2 24 = true then (if jv_ck p1 24 = true then (if (σ.1 36 p2.toNatClampNeg) = (σ.1 37 p1.toNatClampNeg) then (if jv_ck (((24 : Int32) * p1) + p2) 576 = true then (if (σ.1 41 (((24 : Int32) * p1) + p2).toNatClampNeg) = 0 then (some true) else (some false)) else none) else (some false)) else none) else none) else (some false)) (fun q3 => some q3))
set_option maxRecDepth 100000 in
set_option maxHeartbeats 4000000 in
theorem ok_X8_mayFollow {G : jv_G} {l : Launch} {σ : jv_S} {p1 : Int32} {p2 : Int32} {r : Bool} (h : f_X8_mayFollow σ p1 p2 = some r) : jv_Cn G l 2 M_X8_mayFollow [.ref 35, .int p1, .int p2] σ (some (.int (jv_b r))) σ := by
  refine jv_of (L0 := [some (.ref 35), some (.int p1), some (.int p2)]) (by decide +kernel) (Nat.le_of_ble_eq_true rfl) rfl (jv_okZ _) (fun E e1 e2 hE hret => ?_)
  unfold f_X8_mayFollow at h
  refine jv_aload_n (x := 35) (pc' := 1) hE dX8_mayFollow_0 rfl 0 rfl rfl ?_
  refine jv_iload_n (x := p2) (pc' := 2) hE dX8_mayFollow_1 rfl 2 rfl rfl ?_
  obtain ⟨q1, hq1, h⟩ := jv_bd_some h
  refine jv_callV (pc' := 5) (o := some (.int (jv_b q1))) (σ' := σ) hE dX8_mayFollow_2 rfl lV_X8_127 (ok_X8_isUsable hq1) rfl rfl rfl (by decide) rfl (Nat.le_of_ble_eq_true rfl) ?_
  show jv_V E 5 [some (.ref 35), some (.int p1), some (.int p2)] [.int (jv_b q1)] σ
  obtain ⟨q3, hq3, h⟩ := jv_bd_some h
  have kq3 : jv_V E 42 [none, none, none] [.int (jv_b q3)] σ := by
    cases h
    exact hret _ _ dX8_mayFollow_42
  refine jv_if_eq (x := (jv_b q1)) (tgt := 41) (pc' := 8) hE dX8_mayFollow_5 (by decide) rfl (fun c2 => ?_) (fun c2 => ?_)
  · have c2 := jv_b0 c2
    rw [if_neg c2] at hq3
    refine jv_iconst (v := (0 : Int32)) (pc' := 42) hE dX8_mayFollow_41 rfl (by decide) ?_
    cases hq3
    exact jv_forget [false, false, false] kq3
  · have c2 := jv_b1 c2
    rw [if_pos c2] at hq3
    refine jv_aload_n (x := 35) (pc' := 9) hE dX8_mayFollow_8 rfl 0 rfl rfl ?_
    refine jv_get (v := .ref 36) (pc' := 12) hE dX8_mayFollow_9 rfl lF_X8_13 rfl rfl rfl ?_
    refine jv_iload_n (x := p2) (pc' := 13) hE dX8_mayFollow_12 rfl 2 rfl rfl ?_
    by_cases c4 : jv_ck p2 24 = true
    · rw [if_pos c4] at hq3
      refine jv_iald (pc' := 14) hE dX8_mayFollow_13 rfl rfl (jv_ck_in c4) ?_
      show jv_V E 14 [some (.ref 35), some (.int p1), some (.int p2)] [.int (σ.1 36 p2.toNatClampNeg)] σ
      refine jv_aload_n (x := 35) (pc' := 15) hE dX8_mayFollow_14 rfl 0 rfl rfl ?_
      refine jv_get (v := .ref 37) (pc' := 18) hE dX8_mayFollow_15 rfl lF_X8_17 rfl rfl rfl ?_
      refine jv_iload_n (x := p1) (pc' := 19) hE dX8_mayFollow_18 rfl 1 rfl rfl ?_
      by_cases c5 : jv_ck p1 24 = true
      · rw [if_pos c5] at hq3
        refine jv_iald (pc' := 20) hE dX8_mayFollow_19 rfl rfl (jv_ck_in c5) ?_
        show jv_V E 20 [some (.ref 35), some (.int p1), some (.int p2)] [.int (σ.1 37 p1.toNatClampNeg), .int (σ.1 36 p2.toNatClampNeg)] σ
        refine jv_icmp_ne (x := (σ.1 36 p2.toNatClampNeg)) (y := (σ.1 37 p1.toNatClampNeg)) (tgt := 41) (pc' := 23) hE dX8_mayFollow_20 (by decide) rfl (fun c6 => ?_) (fun c6 => ?_)
        · rw [if_neg c6] at hq3
          refine jv_iconst (v := (0 : Int32)) (pc' := 42) hE dX8_mayFollow_41 rfl (by decide) ?_
          cases hq3
          exact jv_forget [false, false, false] kq3
        · rw [if_pos c6] at hq3
          refine jv_aload_n (x := 35) (pc' := 24) hE dX8_mayFollow_23 rfl 0 rfl rfl ?_
          refine jv_get (v := .ref 41) (pc' := 27) hE dX8_mayFollow_24 rfl lF_X8_30 rfl rfl rfl ?_
          refine jv_bipush (v := (24 : Int32)) (pc' := 29) hE dX8_mayFollow_27 rfl (by decide) ?_
          refine jv_iload_n (x := p1) (pc' := 30) hE dX8_mayFollow_29 rfl 1 rfl rfl ?_
          refine jv_imul (x := (24 : Int32)) (y := p1) (pc' := 31) hE dX8_mayFollow_30 rfl ?_
          refine jv_iload_n (x := p2) (pc' := 32) hE dX8_mayFollow_31 rfl 2 rfl rfl ?_
          refine jv_iadd (x := ((24 : Int32) * p1)) (y := p2) (pc' := 33) hE dX8_mayFollow_32 rfl ?_
          by_cases c7 : jv_ck (((24 : Int32) * p1) + p2) 576 = true
          · rw [if_pos c7] at hq3
            refine jv_zald (pc' := 34) hE dX8_mayFollow_33 rfl rfl (jv_ck_in c7) ?_
            show jv_V E 34 [some (.ref 35), some (.int p1), some (.int p2)] [.int (σ.1 41 (((24 : Int32) * p1) + p2).toNatClampNeg)] σ
            refine jv_if_ne (x := (σ.1 41 (((24 : Int32) * p1) + p2).toNatClampNeg)) (tgt := 41) (pc' := 37) hE dX8_mayFollow_34 (by decide) rfl (fun c8 => ?_) (fun c8 => ?_)
            · rw [if_neg c8] at hq3
              refine jv_iconst (v := (0 : Int32)) (pc' := 42) hE dX8_mayFollow_41 rfl (by decide) ?_
              cases hq3
              exact jv_forget [false, false, false] kq3
            · rw [if_pos c8] at hq3
              refine jv_iconst (v := (1 : Int32)) (pc' := 38) hE dX8_mayFollow_37 rfl (by decide) ?_
              refine jv_goto (tgt := 42) hE dX8_mayFollow_38 (by decide) ?_
              cases hq3
              exact jv_forget [false, false, false] kq3
          · rw [if_neg c7] at hq3; cases hq3
      · rw [if_neg c5] at hq3; cases hq3
    · rw [if_neg c4] at hq3; cases hq3
noncomputable def f_X8_laysRests_lp2 (a1 : Int32) : Nat → Int32 → jv_S → Option (Int32 × jv_S)
  | 0, _, _ => none
  | n + 1, v2, σ => if (σ.1 35 2) ≤ v2 then (some (v2, σ)) else (jv_bd (f_X8_isUsable σ v2) (fun q2 => jv_bd (if q2 = true then (if jv_ck v2 24 = true then (if (σ.1 37 v2.toNatClampNeg) = a1 then (if jv_ck v2 24 = true then (some (σ.1 38 v2.toNatClampNeg)) else none) else (some (1000000000 : Int32))) else none) else (some (1000000000 : Int32))) (fun q4 => if jv_ck v2 24 = true then (f_X8_laysRests_lp2 a1 n (v2 + (1 : Int32)) (jv_si σ 59 v2.toNatClampNeg q4)) else none)))
noncomputable def f_X8_laysRests_lp74 (a2 : Int32) (a3 : Int32) : Nat → Int32 → jv_S → Option (Int32 × jv_S)
  | 0, _, _ => none
  | n + 1, v4, σ => if (σ.1 35 2) ≤ v4 then (some (v4, σ)) else (jv_bd (f_X8_isUsable σ a3) (fun q13 => jv_bd (if q13 = true then (jv_bd (f_X8_mayFollow σ a3 v4) (fun q16 => if q16 = true then (if jv_ck v4 24 = true then (if jv_ck a3 24 = true then (if jv_ck a3 24 = true then (if (σ.1 59 a3.toNatClampNeg) ≤ ((σ.1 59 v4.toNatClampNeg) + (σ.1 38 a3.toNatClampNeg)) then (some σ) else (if jv_ck v4 24 = true then (if jv_ck a3 24 = true then (if jv_ck a3 24 = true then (some (jv_si σ 59 a3.toNatClampNeg ((σ.1 59 v4.toNatClampNeg) + (σ.1 38 a3.toNatClampNeg)))) else none) else none) else none)) else none) else none) else none) else (some σ))) else (some σ)) (fun q15 => f_X8_laysRests_lp74 a2 a3 n (v4 + (1 : Int32)) q15)))
noncomputable def f_X8_laysRests_lp63 (a2 : Int32) : Nat → Int32 → jv_S → Option (Int32 × jv_S)
  | 0, _, _ => none
  | n + 1, v3, σ => if (σ.1 35 2) ≤ v3 then (some (v3, σ)) else (jv_bd (f_X8_laysRests_lp74 a2 v3 jv_fuel (0 : Int32) σ) (fun q12 => f_X8_laysRests_lp63 a2 n (v3 + (1 : Int32)) q12.2))
noncomputable def f_X8_laysRests_lp53 : Nat → Int32 → jv_S → Option (Int32 × jv_S)
  | 0, _, _ => none
  | n + 1, v2, σ => if (σ.1 35 2) ≤ v2 then (some (v2, σ)) else (jv_bd (f_X8_laysRests_lp63 v2 jv_fuel (0 : Int32) σ) (fun q11 => f_X8_laysRests_lp53 n (v2 + (1 : Int32)) q11.2))
noncomputable def f_X8_laysRests (σ : jv_S) (p1 : Int32) : Option (jv_S) := jv_bd (f_X8_laysRests_lp2 p1 jv_fuel (0 : Int32) σ) (fun q9 => jv_bd (f_X8_laysRests_lp53 jv_fuel (0 : Int32) q9.2) (fun q12 => some q12.2))
set_option maxRecDepth 100000 in
set_option maxHeartbeats 4000000 in
theorem lp_X8_laysRests_2 {a1 : Int32} {E : jv_E} (hE : jv_Cx E RX8 cX8_laysRests 5 3) : ∀ (n : Nat) (v2 : Int32) (σ : jv_S) (q : Int32 × jv_S), f_X8_laysRests_lp2 a1 n v2 σ = some q → (jv_V E 51 [some (.ref 35), none, none, none, none] [] q.2) → jv_V E 2 [some (.ref 35), some (.int a1), some (.int v2), none, none] [] σ := by
  intro n
  induction n with
  | zero =>
    intro v2 σ q h
    rw [f_X8_laysRests_lp2] at h
    cases h
  | succ n ih =>
    intro v2 σ q h hk
    rw [f_X8_laysRests_lp2] at h
    refine jv_iload_n (x := v2) (pc' := 3) hE dX8_laysRests_2 rfl 2 rfl rfl ?_
    refine jv_aload_n (x := 35) (pc' := 4) hE dX8_laysRests_3 rfl 0 rfl rfl ?_
    refine jv_get (v := .int (σ.1 35 2)) (pc' := 7) hE dX8_laysRests_4 rfl lF_X8_105 rfl rfl rfl ?_
    refine jv_icmp_ge (x := v2) (y := (σ.1 35 2)) (tgt := 51) (pc' := 10) hE dX8_laysRests_7 (by decide) rfl (fun c1 => ?_) (fun c1 => ?_)
    · rw [if_pos c1] at h
      cases h
      exact jv_forget [true, false, false, true, true] hk
    · rw [if_neg c1] at h
      refine jv_aload_n (x := 35) (pc' := 11) hE dX8_laysRests_10 rfl 0 rfl rfl ?_
      refine jv_get (v := .ref 59) (pc' := 14) hE dX8_laysRests_11 rfl lF_X8_84 rfl rfl rfl ?_
      refine jv_iload_n (x := v2) (pc' := 15) hE dX8_laysRests_14 rfl 2 rfl rfl ?_
      refine jv_aload_n (x := 35) (pc' := 16) hE dX8_laysRests_15 rfl 0 rfl rfl ?_
      refine jv_iload_n (x := v2) (pc' := 17) hE dX8_laysRests_16 rfl 2 rfl rfl ?_
      obtain ⟨q2, hq2, h⟩ := jv_bd_some h
      refine jv_callV (pc' := 20) (o := some (.int (jv_b q2))) (σ' := σ) hE dX8_laysRests_17 rfl lV_X8_127 (ok_X8_isUsable hq2) rfl rfl rfl (by decide) rfl (Nat.le_of_ble_eq_true rfl) ?_
      show jv_V E 20 [some (.ref 35), some (.int a1), some (.int v2), none, none] [.int (jv_b q2), .int v2, .ref 59] σ
      obtain ⟨q4, hq4, h⟩ := jv_bd_some h
      have kq4 : jv_V E 44 [some (.ref 35), some (.int a1), some (.int v2), none, none] [.int q4, .int v2, .ref 59] σ := by
        by_cases c8 : jv_ck v2 24 = true
        · rw [if_pos c8] at h
          refine jv_iast (pc' := 45) hE dX8_laysRests_44 rfl rfl (jv_ck_in c8) ?_
          refine jv_iinc (x := v2) (v := (v2 + (1 : Int32))) (L' := [some (.ref 35), some (.int a1), some (.int (v2 + (1 : Int32))), none, none]) (pc' := 48) hE dX8_laysRests_45 rfl rfl rfl (by decide) rfl rfl ?_
          refine jv_goto (tgt := 2) hE dX8_laysRests_48 (by decide) ?_
          exact jv_forget [true, true, true, true, true] (ih (v2 + (1 : Int32)) (jv_si σ 59 v2.toNatClampNeg q4) _ h hk)
        · rw [if_neg c8] at h; cases h
      refine jv_if_eq (x := (jv_b q2)) (tgt := 42) (pc' := 23) hE dX8_laysRests_20 (by decide) rfl (fun c3 => ?_) (fun c3 => ?_)
      · have c3 := jv_b0 c3
        rw [if_neg c3] at hq4
        refine jv_ldc (v := (1000000000 : Int32)) (pc' := 44) hE dX8_laysRests_42 rfl lC_X8_130 ?_
        cases hq4
        exact jv_forget [true, true, true, true, true] kq4
      · have c3 := jv_b1 c3
        rw [if_pos c3] at hq4
        refine jv_aload_n (x := 35) (pc' := 24) hE dX8_laysRests_23 rfl 0 rfl rfl ?_
        refine jv_get (v := .ref 37) (pc' := 27) hE dX8_laysRests_24 rfl lF_X8_17 rfl rfl rfl ?_
        refine jv_iload_n (x := v2) (pc' := 28) hE dX8_laysRests_27 rfl 2 rfl rfl ?_
        by_cases c5 : jv_ck v2 24 = true
        · rw [if_pos c5] at hq4
          refine jv_iald (pc' := 29) hE dX8_laysRests_28 rfl rfl (jv_ck_in c5) ?_
          show jv_V E 29 [some (.ref 35), some (.int a1), some (.int v2), none, none] [.int (σ.1 37 v2.toNatClampNeg), .int v2, .ref 59] σ
          refine jv_iload_n (x := a1) (pc' := 30) hE dX8_laysRests_29 rfl 1 rfl rfl ?_
          refine jv_icmp_ne (x := (σ.1 37 v2.toNatClampNeg)) (y := a1) (tgt := 42) (pc' := 33) hE dX8_laysRests_30 (by decide) rfl (fun c6 => ?_) (fun c6 => ?_)
          · rw [if_neg c6] at hq4
            refine jv_ldc (v := (1000000000 : Int32)) (pc' := 44) hE dX8_laysRests_42 rfl lC_X8_130 ?_
            cases hq4
            exact jv_forget [true, true, true, true, true] kq4
          · rw [if_pos c6] at hq4
            refine jv_aload_n (x := 35) (pc' := 34) hE dX8_laysRests_33 rfl 0 rfl rfl ?_
            refine jv_get (v := .ref 38) (pc' := 37) hE dX8_laysRests_34 rfl lF_X8_20 rfl rfl rfl ?_
            refine jv_iload_n (x := v2) (pc' := 38) hE dX8_laysRests_37 rfl 2 rfl rfl ?_
            by_cases c7 : jv_ck v2 24 = true
            · rw [if_pos c7] at hq4
              refine jv_iald (pc' := 39) hE dX8_laysRests_38 rfl rfl (jv_ck_in c7) ?_
              show jv_V E 39 [some (.ref 35), some (.int a1), some (.int v2), none, none] [.int (σ.1 38 v2.toNatClampNeg), .int v2, .ref 59] σ
              refine jv_goto (tgt := 44) hE dX8_laysRests_39 (by decide) ?_
              cases hq4
              exact jv_forget [true, true, true, true, true] kq4
            · rw [if_neg c7] at hq4; cases hq4
        · rw [if_neg c5] at hq4; cases hq4
set_option maxRecDepth 100000 in
set_option maxHeartbeats 4000000 in
theorem lp_X8_laysRests_74 {a2 : Int32} {a3 : Int32} {E : jv_E} (hE : jv_Cx E RX8 cX8_laysRests 5 3) : ∀ (n : Nat) (v4 : Int32) (σ : jv_S) (q : Int32 × jv_S), f_X8_laysRests_lp74 a2 a3 n v4 σ = some q → (jv_V E 150 [some (.ref 35), none, some (.int a2), some (.int a3), none] [] q.2) → jv_V E 74 [some (.ref 35), none, some (.int a2), some (.int a3), some (.int v4)] [] σ := by
  intro n
  induction n with
  | zero =>
    intro v4 σ q h
    rw [f_X8_laysRests_lp74] at h
    cases h
  | succ n ih =>
    intro v4 σ q h hk
    rw [f_X8_laysRests_lp74] at h
    refine jv_iload (x := v4) (pc' := 76) hE dX8_laysRests_74 rfl rfl ?_
    refine jv_aload_n (x := 35) (pc' := 77) hE dX8_laysRests_76 rfl 0 rfl rfl ?_
    refine jv_get (v := .int (σ.1 35 2)) (pc' := 80) hE dX8_laysRests_77 rfl lF_X8_105 rfl rfl rfl ?_
    refine jv_icmp_ge (x := v4) (y := (σ.1 35 2)) (tgt := 150) (pc' := 83) hE dX8_laysRests_80 (by decide) rfl (fun c12 => ?_) (fun c12 => ?_)
    · rw [if_pos c12] at h
      cases h
      exact jv_forget [true, true, true, true, false] hk
    · rw [if_neg c12] at h
      refine jv_aload_n (x := 35) (pc' := 84) hE dX8_laysRests_83 rfl 0 rfl rfl ?_
      refine jv_iload_n (x := a3) (pc' := 85) hE dX8_laysRests_84 rfl 3 rfl rfl ?_
      obtain ⟨q13, hq13, h⟩ := jv_bd_some h
      refine jv_callV (pc' := 88) (o := some (.int (jv_b q13))) (σ' := σ) hE dX8_laysRests_85 rfl lV_X8_127 (ok_X8_isUsable hq13) rfl rfl rfl (by decide) rfl (Nat.le_of_ble_eq_true rfl) ?_
      show jv_V E 88 [some (.ref 35), none, some (.int a2), some (.int a3), some (.int v4)] [.int (jv_b q13)] σ
      obtain ⟨q15, hq15, h⟩ := jv_bd_some h
      have kq15 : jv_V E 144 [some (.ref 35), none, some (.int a2), some (.int a3), some (.int v4)] [] q15 := by
        refine jv_iinc (x := v4) (v := (v4 + (1 : Int32))) (L' := [some (.ref 35), none, some (.int a2), some (.int a3), some (.int (v4 + (1 : Int32)))]) (pc' := 147) hE dX8_laysRests_144 rfl rfl rfl (by decide) rfl rfl ?_
        refine jv_goto (tgt := 74) hE dX8_laysRests_147 (by decide) ?_
        exact jv_forget [true, true, true, true, true] (ih (v4 + (1 : Int32)) q15 _ h hk)
      refine jv_if_eq (x := (jv_b q13)) (tgt := 144) (pc' := 91) hE dX8_laysRests_88 (by decide) rfl (fun c14 => ?_) (fun c14 => ?_)
      · have c14 := jv_b0 c14
        rw [if_neg c14] at hq15
        cases hq15
        exact jv_forget [true, true, true, true, true] kq15
      · have c14 := jv_b1 c14
        rw [if_pos c14] at hq15
        refine jv_aload_n (x := 35) (pc' := 92) hE dX8_laysRests_91 rfl 0 rfl rfl ?_
        refine jv_iload_n (x := a3) (pc' := 93) hE dX8_laysRests_92 rfl 3 rfl rfl ?_
        refine jv_iload (x := v4) (pc' := 95) hE dX8_laysRests_93 rfl rfl ?_
        obtain ⟨q16, hq16, hq15⟩ := jv_bd_some hq15
        refine jv_callV (pc' := 98) (o := some (.int (jv_b q16))) (σ' := σ) hE dX8_laysRests_95 rfl lV_X8_224 (ok_X8_mayFollow hq16) rfl rfl rfl (by decide) rfl (Nat.le_of_ble_eq_true rfl) ?_
        show jv_V E 98 [some (.ref 35), none, some (.int a2), some (.int a3), some (.int v4)] [.int (jv_b q16)] σ
        refine jv_if_eq (x := (jv_b q16)) (tgt := 144) (pc' := 101) hE dX8_laysRests_98 (by decide) rfl (fun c17 => ?_) (fun c17 => ?_)
        · have c17 := jv_b0 c17
          rw [if_neg c17] at hq15
          cases hq15
          exact jv_forget [true, true, true, true, true] kq15
        · have c17 := jv_b1 c17
          rw [if_pos c17] at hq15
          refine jv_aload_n (x := 35) (pc' := 102) hE dX8_laysRests_101 rfl 0 rfl rfl ?_
          refine jv_get (v := .ref 59) (pc' := 105) hE dX8_laysRests_102 rfl lF_X8_84 rfl rfl rfl ?_
          refine jv_iload (x := v4) (pc' := 107) hE dX8_laysRests_105 rfl rfl ?_
          by_cases c18 : jv_ck v4 24 = true
          · rw [if_pos c18] at hq15
            refine jv_iald (pc' := 108) hE dX8_laysRests_107 rfl rfl (jv_ck_in c18) ?_
            show jv_V E 108 [some (.ref 35), none, some (.int a2), some (.int a3), some (.int v4)] [.int (σ.1 59 v4.toNatClampNeg)] σ
            refine jv_aload_n (x := 35) (pc' := 109) hE dX8_laysRests_108 rfl 0 rfl rfl ?_
            refine jv_get (v := .ref 38) (pc' := 112) hE dX8_laysRests_109 rfl lF_X8_20 rfl rfl rfl ?_
            refine jv_iload_n (x := a3) (pc' := 113) hE dX8_laysRests_112 rfl 3 rfl rfl ?_
            by_cases c19 : jv_ck a3 24 = true
            · rw [if_pos c19] at hq15
              refine jv_iald (pc' := 114) hE dX8_laysRests_113 rfl rfl (jv_ck_in c19) ?_
              show jv_V E 114 [some (.ref 35), none, some (.int a2), some (.int a3), some (.int v4)] [.int (σ.1 38 a3.toNatClampNeg), .int (σ.1 59 v4.toNatClampNeg)] σ
              refine jv_iadd (x := (σ.1 59 v4.toNatClampNeg)) (y := (σ.1 38 a3.toNatClampNeg)) (pc' := 115) hE dX8_laysRests_114 rfl ?_
              refine jv_aload_n (x := 35) (pc' := 116) hE dX8_laysRests_115 rfl 0 rfl rfl ?_
              refine jv_get (v := .ref 59) (pc' := 119) hE dX8_laysRests_116 rfl lF_X8_84 rfl rfl rfl ?_
              refine jv_iload_n (x := a3) (pc' := 120) hE dX8_laysRests_119 rfl 3 rfl rfl ?_
              by_cases c20 : jv_ck a3 24 = true
              · rw [if_pos c20] at hq15
                refine jv_iald (pc' := 121) hE dX8_laysRests_120 rfl rfl (jv_ck_in c20) ?_
                show jv_V E 121 [some (.ref 35), none, some (.int a2), some (.int a3), some (.int v4)] [.int (σ.1 59 a3.toNatClampNeg), .int ((σ.1 59 v4.toNatClampNeg) + (σ.1 38 a3.toNatClampNeg))] σ
                refine jv_icmp_ge (x := ((σ.1 59 v4.toNatClampNeg) + (σ.1 38 a3.toNatClampNeg))) (y := (σ.1 59 a3.toNatClampNeg)) (tgt := 144) (pc' := 124) hE dX8_laysRests_121 (by decide) rfl (fun c21 => ?_) (fun c21 => ?_)
                · rw [if_pos c21] at hq15
                  cases hq15
                  exact jv_forget [true, true, true, true, true] kq15
                · rw [if_neg c21] at hq15
                  refine jv_aload_n (x := 35) (pc' := 125) hE dX8_laysRests_124 rfl 0 rfl rfl ?_
                  refine jv_get (v := .ref 59) (pc' := 128) hE dX8_laysRests_125 rfl lF_X8_84 rfl rfl rfl ?_
                  refine jv_iload_n (x := a3) (pc' := 129) hE dX8_laysRests_128 rfl 3 rfl rfl ?_
                  refine jv_aload_n (x := 35) (pc' := 130) hE dX8_laysRests_129 rfl 0 rfl rfl ?_
                  refine jv_get (v := .ref 59) (pc' := 133) hE dX8_laysRests_130 rfl lF_X8_84 rfl rfl rfl ?_
                  refine jv_iload (x := v4) (pc' := 135) hE dX8_laysRests_133 rfl rfl ?_
                  by_cases c22 : jv_ck v4 24 = true
                  · rw [if_pos c22] at hq15
                    refine jv_iald (pc' := 136) hE dX8_laysRests_135 rfl rfl (jv_ck_in c22) ?_
                    show jv_V E 136 [some (.ref 35), none, some (.int a2), some (.int a3), some (.int v4)] [.int (σ.1 59 v4.toNatClampNeg), .int a3, .ref 59] σ
                    refine jv_aload_n (x := 35) (pc' := 137) hE dX8_laysRests_136 rfl 0 rfl rfl ?_
                    refine jv_get (v := .ref 38) (pc' := 140) hE dX8_laysRests_137 rfl lF_X8_20 rfl rfl rfl ?_
                    refine jv_iload_n (x := a3) (pc' := 141) hE dX8_laysRests_140 rfl 3 rfl rfl ?_
                    by_cases c23 : jv_ck a3 24 = true
                    · rw [if_pos c23] at hq15
                      refine jv_iald (pc' := 142) hE dX8_laysRests_141 rfl rfl (jv_ck_in c23) ?_
                      show jv_V E 142 [some (.ref 35), none, some (.int a2), some (.int a3), some (.int v4)] [.int (σ.1 38 a3.toNatClampNeg), .int (σ.1 59 v4.toNatClampNeg), .int a3, .ref 59] σ
                      refine jv_iadd (x := (σ.1 59 v4.toNatClampNeg)) (y := (σ.1 38 a3.toNatClampNeg)) (pc' := 143) hE dX8_laysRests_142 rfl ?_
                      by_cases c24 : jv_ck a3 24 = true
                      · rw [if_pos c24] at hq15
                        refine jv_iast (pc' := 144) hE dX8_laysRests_143 rfl rfl (jv_ck_in c24) ?_
                        cases hq15
                        exact jv_forget [true, true, true, true, true] kq15
                      · rw [if_neg c24] at hq15; cases hq15
                    · rw [if_neg c23] at hq15; cases hq15
                  · rw [if_neg c22] at hq15; cases hq15
              · rw [if_neg c20] at hq15; cases hq15
            · rw [if_neg c19] at hq15; cases hq15
          · rw [if_neg c18] at hq15; cases hq15
set_option maxRecDepth 100000 in
set_option maxHeartbeats 4000000 in
theorem lp_X8_laysRests_63 {a2 : Int32} {E : jv_E} (hE : jv_Cx E RX8 cX8_laysRests 5 3) : ∀ (n : Nat) (v3 : Int32) (σ : jv_S) (q : Int32 × jv_S), f_X8_laysRests_lp63 a2 n v3 σ = some q → (jv_V E 156 [some (.ref 35), none, some (.int a2), none, none] [] q.2) → jv_V E 63 [some (.ref 35), none, some (.int a2), some (.int v3), none] [] σ := by
  intro n
  induction n with
  | zero =>
    intro v3 σ q h
    rw [f_X8_laysRests_lp63] at h
    cases h
  | succ n ih =>
    intro v3 σ q h hk
    rw [f_X8_laysRests_lp63] at h
    refine jv_iload_n (x := v3) (pc' := 64) hE dX8_laysRests_63 rfl 3 rfl rfl ?_
    refine jv_aload_n (x := 35) (pc' := 65) hE dX8_laysRests_64 rfl 0 rfl rfl ?_
    refine jv_get (v := .int (σ.1 35 2)) (pc' := 68) hE dX8_laysRests_65 rfl lF_X8_105 rfl rfl rfl ?_
    refine jv_icmp_ge (x := v3) (y := (σ.1 35 2)) (tgt := 156) (pc' := 71) hE dX8_laysRests_68 (by decide) rfl (fun c11 => ?_) (fun c11 => ?_)
    · rw [if_pos c11] at h
      cases h
      exact jv_forget [true, true, true, false, true] hk
    · rw [if_neg c11] at h
      refine jv_iconst (v := (0 : Int32)) (pc' := 72) hE dX8_laysRests_71 rfl (by decide) ?_
      refine jv_istore (x := (0 : Int32)) (L' := [some (.ref 35), none, some (.int a2), some (.int v3), some (.int (0 : Int32))]) (pc' := 74) hE dX8_laysRests_72 rfl (by decide) rfl rfl ?_
      obtain ⟨q12, hq12, h⟩ := jv_bd_some h
      refine jv_forget [true, true, true, true, true] (lp_X8_laysRests_74 hE jv_fuel (0 : Int32) σ _ hq12 ?_)
      refine jv_iinc (x := v3) (v := (v3 + (1 : Int32))) (L' := [some (.ref 35), none, some (.int a2), some (.int (v3 + (1 : Int32))), none]) (pc' := 153) hE dX8_laysRests_150 rfl rfl rfl (by decide) rfl rfl ?_
      refine jv_goto (tgt := 63) hE dX8_laysRests_153 (by decide) ?_
      exact jv_forget [true, true, true, true, true] (ih (v3 + (1 : Int32)) q12.2 _ h hk)
set_option maxRecDepth 100000 in
set_option maxHeartbeats 4000000 in
theorem lp_X8_laysRests_53 {E : jv_E} (hE : jv_Cx E RX8 cX8_laysRests 5 3) : ∀ (n : Nat) (v2 : Int32) (σ : jv_S) (q : Int32 × jv_S), f_X8_laysRests_lp53 n v2 σ = some q → (jv_V E 162 [none, none, none, none, none] [] q.2) → jv_V E 53 [some (.ref 35), none, some (.int v2), none, none] [] σ := by
  intro n
  induction n with
  | zero =>
    intro v2 σ q h
    rw [f_X8_laysRests_lp53] at h
    cases h
  | succ n ih =>
    intro v2 σ q h hk
    rw [f_X8_laysRests_lp53] at h
    refine jv_iload_n (x := v2) (pc' := 54) hE dX8_laysRests_53 rfl 2 rfl rfl ?_
    refine jv_aload_n (x := 35) (pc' := 55) hE dX8_laysRests_54 rfl 0 rfl rfl ?_
    refine jv_get (v := .int (σ.1 35 2)) (pc' := 58) hE dX8_laysRests_55 rfl lF_X8_105 rfl rfl rfl ?_
    refine jv_icmp_ge (x := v2) (y := (σ.1 35 2)) (tgt := 162) (pc' := 61) hE dX8_laysRests_58 (by decide) rfl (fun c10 => ?_) (fun c10 => ?_)
    · rw [if_pos c10] at h
      cases h
      exact jv_forget [false, true, false, true, true] hk
    · rw [if_neg c10] at h
      refine jv_iconst (v := (0 : Int32)) (pc' := 62) hE dX8_laysRests_61 rfl (by decide) ?_
      refine jv_istore_n (x := (0 : Int32)) (L' := [some (.ref 35), none, some (.int v2), some (.int (0 : Int32)), none]) (pc' := 63) hE dX8_laysRests_62 rfl 3 rfl (by decide) rfl rfl ?_
      obtain ⟨q11, hq11, h⟩ := jv_bd_some h
      refine jv_forget [true, true, true, true, true] (lp_X8_laysRests_63 hE jv_fuel (0 : Int32) σ _ hq11 ?_)
      refine jv_iinc (x := v2) (v := (v2 + (1 : Int32))) (L' := [some (.ref 35), none, some (.int (v2 + (1 : Int32))), none, none]) (pc' := 159) hE dX8_laysRests_156 rfl rfl rfl (by decide) rfl rfl ?_
      refine jv_goto (tgt := 53) hE dX8_laysRests_159 (by decide) ?_
      exact jv_forget [true, true, true, true, true] (ih (v2 + (1 : Int32)) q11.2 _ h hk)
set_option maxRecDepth 100000 in
set_option maxHeartbeats 4000000 in
theorem ok_X8_laysRests {G : jv_G} {l : Launch} {σ : jv_S} {p1 : Int32} {r : jv_S} (h : f_X8_laysRests σ p1 = some r) : jv_Cn G l 3 M_X8_laysRests [.ref 35, .int p1] σ (none) r := by
  refine jv_of (L0 := [some (.ref 35), some (.int p1), none, none, none]) (by decide +kernel) (Nat.le_of_ble_eq_true rfl) rfl jv_okV (fun E e1 e2 hE hret => ?_)
  unfold f_X8_laysRests at h
  refine jv_iconst (v := (0 : Int32)) (pc' := 1) hE dX8_laysRests_0 rfl (by decide) ?_
  refine jv_istore_n (x := (0 : Int32)) (L' := [some (.ref 35), some (.int p1), some (.int (0 : Int32)), none, none]) (pc' := 2) hE dX8_laysRests_1 rfl 2 rfl (by decide) rfl rfl ?_
  obtain ⟨q9, hq9, h⟩ := jv_bd_some h
  refine jv_forget [true, true, true, true, true] (lp_X8_laysRests_2 hE jv_fuel (0 : Int32) σ _ hq9 ?_)
  refine jv_iconst (v := (0 : Int32)) (pc' := 52) hE dX8_laysRests_51 rfl (by decide) ?_
  refine jv_istore_n (x := (0 : Int32)) (L' := [some (.ref 35), none, some (.int (0 : Int32)), none, none]) (pc' := 53) hE dX8_laysRests_52 rfl 2 rfl (by decide) rfl rfl ?_
  obtain ⟨q12, hq12, h⟩ := jv_bd_some h
  refine jv_forget [true, true, true, true, true] (lp_X8_laysRests_53 hE jv_fuel (0 : Int32) q9.2 _ hq12 ?_)
  cases h
  exact hret _ _ dX8_laysRests_162
noncomputable def f_X8_nextOf_lp16 (a1 : Int32) (a2 : Int32) : Nat → Int32 → jv_S → Option ((Int32) ⊕ (Int32))
  | 0, _, _ => none
  | n + 1, v3, σ => if (σ.1 35 2) ≤ v3 then (some (.inr v3)) else (if a2 ≤ 0 then (some (.inr v3)) else (jv_bd (f_X8_mayFollow σ a1 v3) (fun q5 => if q5 = true then (if jv_ck v3 24 = true then (if (σ.1 59 v3.toNatClampNeg) = a2 then (some (.inl (v3))) else (f_X8_nextOf_lp16 a1 a2 n (v3 + (1 : Int32)) σ)) else none) else (f_X8_nextOf_lp16 a1 a2 n (v3 + (1 : Int32)) σ))))
noncomputable def f_X8_nextOf (σ : jv_S) (p1 : Int32) : Option (Int32) := if jv_ck p1 24 = true then (if jv_ck p1 24 = true then (jv_bd (f_X8_nextOf_lp16 p1 ((σ.1 59 p1.toNatClampNeg) - (σ.1 38 p1.toNatClampNeg)) jv_fuel (0 : Int32) σ) (fun q9 => Sum.elim (fun q9 => some q9) (fun q9 => some (-1 : Int32)) q9)) else none) else none
set_option maxRecDepth 100000 in
set_option maxHeartbeats 4000000 in
theorem lp_X8_nextOf_16 {a1 : Int32} {a2 : Int32} {E : jv_E} (hE : jv_Cx E RX8 cX8_nextOf 4 3) : ∀ (n : Nat) (v3 : Int32) (σ : jv_S) (r : (Int32) ⊕ (Int32)), f_X8_nextOf_lp16 a1 a2 n v3 σ = some r → (∀ q, r = .inr q → jv_V E 55 [none, none, none, none] [] σ) → (∀ q, r = .inl q → jv_Rt E cX8_nextOf (some (.int q)) σ) → jv_V E 16 [some (.ref 35), some (.int a1), some (.int a2), some (.int v3)] [] σ := by
  intro n
  induction n with
  | zero =>
    intro v3 σ r h
    rw [f_X8_nextOf_lp16] at h
    cases h
  | succ n ih =>
    intro v3 σ r h hk hr
    rw [f_X8_nextOf_lp16] at h
    refine jv_iload_n (x := v3) (pc' := 17) hE dX8_nextOf_16 rfl 3 rfl rfl ?_
    refine jv_aload_n (x := 35) (pc' := 18) hE dX8_nextOf_17 rfl 0 rfl rfl ?_
    refine jv_get (v := .int (σ.1 35 2)) (pc' := 21) hE dX8_nextOf_18 rfl lF_X8_105 rfl rfl rfl ?_
    refine jv_icmp_ge (x := v3) (y := (σ.1 35 2)) (tgt := 55) (pc' := 24) hE dX8_nextOf_21 (by decide) rfl (fun c3 => ?_) (fun c3 => ?_)
    · rw [if_pos c3] at h
      cases h
      exact jv_forget [false, false, false, false] (hk v3 rfl)
    · rw [if_neg c3] at h
      refine jv_iload_n (x := a2) (pc' := 25) hE dX8_nextOf_24 rfl 2 rfl rfl ?_
      refine jv_if_le (x := a2) (tgt := 55) (pc' := 28) hE dX8_nextOf_25 (by decide) rfl (fun c4 => ?_) (fun c4 => ?_)
      · rw [if_pos c4] at h
        cases h
        exact jv_forget [false, false, false, false] (hk v3 rfl)
      · rw [if_neg c4] at h
        refine jv_aload_n (x := 35) (pc' := 29) hE dX8_nextOf_28 rfl 0 rfl rfl ?_
        refine jv_iload_n (x := a1) (pc' := 30) hE dX8_nextOf_29 rfl 1 rfl rfl ?_
        refine jv_iload_n (x := v3) (pc' := 31) hE dX8_nextOf_30 rfl 3 rfl rfl ?_
        obtain ⟨q5, hq5, h⟩ := jv_bd_some h
        refine jv_callV (pc' := 34) (o := some (.int (jv_b q5))) (σ' := σ) hE dX8_nextOf_31 rfl lV_X8_224 (ok_X8_mayFollow hq5) rfl rfl rfl (by decide) rfl (Nat.le_of_ble_eq_true rfl) ?_
        show jv_V E 34 [some (.ref 35), some (.int a1), some (.int a2), some (.int v3)] [.int (jv_b q5)] σ
        refine jv_if_eq (x := (jv_b q5)) (tgt := 49) (pc' := 37) hE dX8_nextOf_34 (by decide) rfl (fun c6 => ?_) (fun c6 => ?_)
        · have c6 := jv_b0 c6
          rw [if_neg c6] at h
          refine jv_iinc (x := v3) (v := (v3 + (1 : Int32))) (L' := [some (.ref 35), some (.int a1), some (.int a2), some (.int (v3 + (1 : Int32)))]) (pc' := 52) hE dX8_nextOf_49 rfl rfl rfl (by decide) rfl rfl ?_
          refine jv_goto (tgt := 16) hE dX8_nextOf_52 (by decide) ?_
          exact jv_forget [true, true, true, true] (ih (v3 + (1 : Int32)) σ _ h hk hr)
        · have c6 := jv_b1 c6
          rw [if_pos c6] at h
          refine jv_aload_n (x := 35) (pc' := 38) hE dX8_nextOf_37 rfl 0 rfl rfl ?_
          refine jv_get (v := .ref 59) (pc' := 41) hE dX8_nextOf_38 rfl lF_X8_84 rfl rfl rfl ?_
          refine jv_iload_n (x := v3) (pc' := 42) hE dX8_nextOf_41 rfl 3 rfl rfl ?_
          by_cases c7 : jv_ck v3 24 = true
          · rw [if_pos c7] at h
            refine jv_iald (pc' := 43) hE dX8_nextOf_42 rfl rfl (jv_ck_in c7) ?_
            show jv_V E 43 [some (.ref 35), some (.int a1), some (.int a2), some (.int v3)] [.int (σ.1 59 v3.toNatClampNeg)] σ
            refine jv_iload_n (x := a2) (pc' := 44) hE dX8_nextOf_43 rfl 2 rfl rfl ?_
            refine jv_icmp_ne (x := (σ.1 59 v3.toNatClampNeg)) (y := a2) (tgt := 49) (pc' := 47) hE dX8_nextOf_44 (by decide) rfl (fun c8 => ?_) (fun c8 => ?_)
            · rw [if_neg c8] at h
              refine jv_iinc (x := v3) (v := (v3 + (1 : Int32))) (L' := [some (.ref 35), some (.int a1), some (.int a2), some (.int (v3 + (1 : Int32)))]) (pc' := 52) hE dX8_nextOf_49 rfl rfl rfl (by decide) rfl rfl ?_
              refine jv_goto (tgt := 16) hE dX8_nextOf_52 (by decide) ?_
              exact jv_forget [true, true, true, true] (ih (v3 + (1 : Int32)) σ _ h hk hr)
            · rw [if_pos c8] at h
              refine jv_iload_n (x := v3) (pc' := 48) hE dX8_nextOf_47 rfl 3 rfl rfl ?_
              cases h
              exact hr (v3) rfl _ _ dX8_nextOf_48
          · rw [if_neg c7] at h; cases h
set_option maxRecDepth 100000 in
set_option maxHeartbeats 4000000 in
theorem ok_X8_nextOf {G : jv_G} {l : Launch} {σ : jv_S} {p1 : Int32} {r : Int32} (h : f_X8_nextOf σ p1 = some r) : jv_Cn G l 3 M_X8_nextOf [.ref 35, .int p1] σ (some (.int r)) σ := by
  refine jv_of (L0 := [some (.ref 35), some (.int p1), none, none]) (by decide +kernel) (Nat.le_of_ble_eq_true rfl) rfl (jv_okI _) (fun E e1 e2 hE hret => ?_)
  unfold f_X8_nextOf at h
  refine jv_aload_n (x := 35) (pc' := 1) hE dX8_nextOf_0 rfl 0 rfl rfl ?_
  refine jv_get (v := .ref 59) (pc' := 4) hE dX8_nextOf_1 rfl lF_X8_84 rfl rfl rfl ?_
  refine jv_iload_n (x := p1) (pc' := 5) hE dX8_nextOf_4 rfl 1 rfl rfl ?_
  by_cases c1 : jv_ck p1 24 = true
  · rw [if_pos c1] at h
    refine jv_iald (pc' := 6) hE dX8_nextOf_5 rfl rfl (jv_ck_in c1) ?_
    show jv_V E 6 [some (.ref 35), some (.int p1), none, none] [.int (σ.1 59 p1.toNatClampNeg)] σ
    refine jv_aload_n (x := 35) (pc' := 7) hE dX8_nextOf_6 rfl 0 rfl rfl ?_
    refine jv_get (v := .ref 38) (pc' := 10) hE dX8_nextOf_7 rfl lF_X8_20 rfl rfl rfl ?_
    refine jv_iload_n (x := p1) (pc' := 11) hE dX8_nextOf_10 rfl 1 rfl rfl ?_
    by_cases c2 : jv_ck p1 24 = true
    · rw [if_pos c2] at h
      refine jv_iald (pc' := 12) hE dX8_nextOf_11 rfl rfl (jv_ck_in c2) ?_
      show jv_V E 12 [some (.ref 35), some (.int p1), none, none] [.int (σ.1 38 p1.toNatClampNeg), .int (σ.1 59 p1.toNatClampNeg)] σ
      refine jv_isub (x := (σ.1 59 p1.toNatClampNeg)) (y := (σ.1 38 p1.toNatClampNeg)) (pc' := 13) hE dX8_nextOf_12 rfl ?_
      refine jv_istore_n (x := ((σ.1 59 p1.toNatClampNeg) - (σ.1 38 p1.toNatClampNeg))) (L' := [some (.ref 35), some (.int p1), some (.int ((σ.1 59 p1.toNatClampNeg) - (σ.1 38 p1.toNatClampNeg))), none]) (pc' := 14) hE dX8_nextOf_13 rfl 2 rfl (by decide) rfl rfl ?_
      refine jv_iconst (v := (0 : Int32)) (pc' := 15) hE dX8_nextOf_14 rfl (by decide) ?_
      refine jv_istore_n (x := (0 : Int32)) (L' := [some (.ref 35), some (.int p1), some (.int ((σ.1 59 p1.toNatClampNeg) - (σ.1 38 p1.toNatClampNeg))), some (.int (0 : Int32))]) (pc' := 16) hE dX8_nextOf_15 rfl 3 rfl (by decide) rfl rfl ?_
      obtain ⟨q9, hq9, h⟩ := jv_bd_some h
      refine jv_forget [true, true, true, true] (lp_X8_nextOf_16 hE jv_fuel (0 : Int32) σ _ hq9 (fun z hz => ?_) (fun z hz => ?_))
      · subst hz
        simp only [Sum.elim_inr] at h
        refine jv_iconst (v := (-1 : Int32)) (pc' := 56) hE dX8_nextOf_55 rfl (by decide) ?_
        cases h
        exact hret _ _ dX8_nextOf_56
      · subst hz
        simp only [Sum.elim_inl] at h
        cases h
        exact hret
    · rw [if_neg c2] at h; cases h
  · rw [if_neg c1] at h; cases h
noncomputable def f_X8_laysAllowed_lp22 (a1 : Int32) : Nat → Int32 → Int32 → jv_S → Option (Int32 × Int32)
  | 0, _, _, _ => none
  | n + 1, v3, v4, σ => if (σ.1 35 2) ≤ v4 then (some (v3, v4)) else (if jv_ck v4 24 = true then (jv_bd (if (σ.1 36 v4.toNatClampNeg) = a1 then (if jv_ck v4 24 = true then (if (1000000000 : Int32) ≤ (σ.1 59 v4.toNatClampNeg) then (some v3) else (if v3 < 0 then (some v4) else (if jv_ck v4 24 = true then (if jv_ck v3 24 = true then (if (σ.1 59 v3.toNatClampNeg) ≤ (σ.1 59 v4.toNatClampNeg) then (some v3) else (some v4)) else none) else none))) else none) else (some v3)) (fun q6 => f_X8_laysAllowed_lp22 a1 n q6 (v4 + (1 : Int32)) σ)) else none)
noncomputable def f_X8_laysAllowed_lp93 (a3 : Int32) : Nat → Int32 → jv_S → Option (Int32 × jv_S)
  | 0, _, _ => none
  | n + 1, v4, σ => if v4 = (-1 : Int32) then (some (v4, σ)) else (if jv_ck (σ.1 35 43) 24 = true then (jv_bd (f_X8_nextOf (jv_si (jv_si σ 60 (σ.1 35 43).toNatClampNeg v4) 35 43 ((σ.1 35 43) + (1 : Int32))) v4) (fun q17 => f_X8_laysAllowed_lp93 a3 n q17 (jv_si (jv_si σ 60 (σ.1 35 43).toNatClampNeg v4) 35 43 ((σ.1 35 43) + (1 : Int32))))) else none)
noncomputable def f_X8_laysAllowed (σ : jv_S) (p1 : Int32) (p2 : Int32) : Option (Int32 × jv_S) := if p1 = p2 then (some ((0 : Int32), (jv_si σ 35 43 (0 : Int32)))) else (jv_bd (f_X8_laysRests (jv_si σ 35 43 (0 : Int32)) p2) (fun q2 => jv_bd (f_X8_laysAllowed_lp22 p1 jv_fuel (-1 : Int32) (0 : Int32) q2) (fun q13 => if 0 ≤ q13.1 then (jv_bd (f_X8_laysAllowed_lp93 q13.1 jv_fuel q13.1 q2) (fun q18 => if jv_ck q13.1 24 = true then (some ((q18.2.1 59 q13.1.toNatClampNeg), q18.2)) else none)) else (some ((1000000000 : Int32), q2)))))
set_option maxRecDepth 100000 in
set_option maxHeartbeats 4000000 in
theorem lp_X8_laysAllowed_22 {σ : jv_S} {a1 : Int32} {E : jv_E} (hE : jv_Cx E RX8 cX8_laysAllowed 5 4) : ∀ (n : Nat) (v3 : Int32) (v4 : Int32)  (q : Int32 × Int32), f_X8_laysAllowed_lp22 a1 n v3 v4 σ = some q → (jv_V E 83 [some (.ref 35), none, none, some (.int q.1), none] [] σ) → jv_V E 22 [some (.ref 35), some (.int a1), none, some (.int v3), some (.int v4)] [] σ := by
  intro n
  induction n with
  | zero =>
    intro v3 v4 q h
    rw [f_X8_laysAllowed_lp22] at h
    cases h
  | succ n ih =>
    intro v3 v4 q h hk
    rw [f_X8_laysAllowed_lp22] at h
    refine jv_iload (x := v4) (pc' := 24) hE dX8_laysAllowed_22 rfl rfl ?_
    refine jv_aload_n (x := 35) (pc' := 25) hE dX8_laysAllowed_24 rfl 0 rfl rfl ?_
    refine jv_get (v := .int (σ.1 35 2)) (pc' := 28) hE dX8_laysAllowed_25 rfl lF_X8_105 rfl rfl rfl ?_
    refine jv_icmp_ge (x := v4) (y := (σ.1 35 2)) (tgt := 83) (pc' := 31) hE dX8_laysAllowed_28 (by decide) rfl (fun c3 => ?_) (fun c3 => ?_)
    · rw [if_pos c3] at h
      cases h
      exact jv_forget [true, false, true, true, false] hk
    · rw [if_neg c3] at h
      refine jv_aload_n (x := 35) (pc' := 32) hE dX8_laysAllowed_31 rfl 0 rfl rfl ?_
      refine jv_get (v := .ref 36) (pc' := 35) hE dX8_laysAllowed_32 rfl lF_X8_13 rfl rfl rfl ?_
      refine jv_iload (x := v4) (pc' := 37) hE dX8_laysAllowed_35 rfl rfl ?_
      by_cases c4 : jv_ck v4 24 = true
      · rw [if_pos c4] at h
        refine jv_iald (pc' := 38) hE dX8_laysAllowed_37 rfl rfl (jv_ck_in c4) ?_
        show jv_V E 38 [some (.ref 35), some (.int a1), none, some (.int v3), some (.int v4)] [.int (σ.1 36 v4.toNatClampNeg)] σ
        refine jv_iload_n (x := a1) (pc' := 39) hE dX8_laysAllowed_38 rfl 1 rfl rfl ?_
        obtain ⟨q6, hq6, h⟩ := jv_bd_some h
        have kq6 : jv_V E 77 [some (.ref 35), some (.int a1), none, some (.int q6), some (.int v4)] [] σ := by
          refine jv_iinc (x := v4) (v := (v4 + (1 : Int32))) (L' := [some (.ref 35), some (.int a1), none, some (.int q6), some (.int (v4 + (1 : Int32)))]) (pc' := 80) hE dX8_laysAllowed_77 rfl rfl rfl (by decide) rfl rfl ?_
          refine jv_goto (tgt := 22) hE dX8_laysAllowed_80 (by decide) ?_
          exact jv_forget [true, true, true, true, true] (ih q6 (v4 + (1 : Int32)) _ h hk)
        refine jv_icmp_ne (x := (σ.1 36 v4.toNatClampNeg)) (y := a1) (tgt := 77) (pc' := 42) hE dX8_laysAllowed_39 (by decide) rfl (fun c5 => ?_) (fun c5 => ?_)
        · rw [if_neg c5] at hq6
          cases hq6
          exact jv_forget [true, true, true, true, true] kq6
        · rw [if_pos c5] at hq6
          refine jv_aload_n (x := 35) (pc' := 43) hE dX8_laysAllowed_42 rfl 0 rfl rfl ?_
          refine jv_get (v := .ref 59) (pc' := 46) hE dX8_laysAllowed_43 rfl lF_X8_84 rfl rfl rfl ?_
          refine jv_iload (x := v4) (pc' := 48) hE dX8_laysAllowed_46 rfl rfl ?_
          by_cases c7 : jv_ck v4 24 = true
          · rw [if_pos c7] at hq6
            refine jv_iald (pc' := 49) hE dX8_laysAllowed_48 rfl rfl (jv_ck_in c7) ?_
            show jv_V E 49 [some (.ref 35), some (.int a1), none, some (.int v3), some (.int v4)] [.int (σ.1 59 v4.toNatClampNeg)] σ
            refine jv_ldc (v := (1000000000 : Int32)) (pc' := 51) hE dX8_laysAllowed_49 rfl lC_X8_130 ?_
            refine jv_icmp_ge (x := (σ.1 59 v4.toNatClampNeg)) (y := (1000000000 : Int32)) (tgt := 77) (pc' := 54) hE dX8_laysAllowed_51 (by decide) rfl (fun c8 => ?_) (fun c8 => ?_)
            · rw [if_pos c8] at hq6
              cases hq6
              exact jv_forget [true, true, true, true, true] kq6
            · rw [if_neg c8] at hq6
              refine jv_iload_n (x := v3) (pc' := 55) hE dX8_laysAllowed_54 rfl 3 rfl rfl ?_
              refine jv_if_lt (x := v3) (tgt := 74) (pc' := 58) hE dX8_laysAllowed_55 (by decide) rfl (fun c9 => ?_) (fun c9 => ?_)
              · rw [if_pos c9] at hq6
                refine jv_iload (x := v4) (pc' := 76) hE dX8_laysAllowed_74 rfl rfl ?_
                refine jv_istore_n (x := v4) (L' := [some (.ref 35), some (.int a1), none, some (.int v4), some (.int v4)]) (pc' := 77) hE dX8_laysAllowed_76 rfl 3 rfl (by decide) rfl rfl ?_
                cases hq6
                exact jv_forget [true, true, true, true, true] kq6
              · rw [if_neg c9] at hq6
                refine jv_aload_n (x := 35) (pc' := 59) hE dX8_laysAllowed_58 rfl 0 rfl rfl ?_
                refine jv_get (v := .ref 59) (pc' := 62) hE dX8_laysAllowed_59 rfl lF_X8_84 rfl rfl rfl ?_
                refine jv_iload (x := v4) (pc' := 64) hE dX8_laysAllowed_62 rfl rfl ?_
                by_cases c10 : jv_ck v4 24 = true
                · rw [if_pos c10] at hq6
                  refine jv_iald (pc' := 65) hE dX8_laysAllowed_64 rfl rfl (jv_ck_in c10) ?_
                  show jv_V E 65 [some (.ref 35), some (.int a1), none, some (.int v3), some (.int v4)] [.int (σ.1 59 v4.toNatClampNeg)] σ
                  refine jv_aload_n (x := 35) (pc' := 66) hE dX8_laysAllowed_65 rfl 0 rfl rfl ?_
                  refine jv_get (v := .ref 59) (pc' := 69) hE dX8_laysAllowed_66 rfl lF_X8_84 rfl rfl rfl ?_
                  refine jv_iload_n (x := v3) (pc' := 70) hE dX8_laysAllowed_69 rfl 3 rfl rfl ?_
                  by_cases c11 : jv_ck v3 24 = true
                  · rw [if_pos c11] at hq6
                    refine jv_iald (pc' := 71) hE dX8_laysAllowed_70 rfl rfl (jv_ck_in c11) ?_
                    show jv_V E 71 [some (.ref 35), some (.int a1), none, some (.int v3), some (.int v4)] [.int (σ.1 59 v3.toNatClampNeg), .int (σ.1 59 v4.toNatClampNeg)] σ
                    refine jv_icmp_ge (x := (σ.1 59 v4.toNatClampNeg)) (y := (σ.1 59 v3.toNatClampNeg)) (tgt := 77) (pc' := 74) hE dX8_laysAllowed_71 (by decide) rfl (fun c12 => ?_) (fun c12 => ?_)
                    · rw [if_pos c12] at hq6
                      cases hq6
                      exact jv_forget [true, true, true, true, true] kq6
                    · rw [if_neg c12] at hq6
                      refine jv_iload (x := v4) (pc' := 76) hE dX8_laysAllowed_74 rfl rfl ?_
                      refine jv_istore_n (x := v4) (L' := [some (.ref 35), some (.int a1), none, some (.int v4), some (.int v4)]) (pc' := 77) hE dX8_laysAllowed_76 rfl 3 rfl (by decide) rfl rfl ?_
                      cases hq6
                      exact jv_forget [true, true, true, true, true] kq6
                  · rw [if_neg c11] at hq6; cases hq6
                · rw [if_neg c10] at hq6; cases hq6
          · rw [if_neg c7] at hq6; cases hq6
      · rw [if_neg c4] at h; cases h
set_option maxRecDepth 100000 in
set_option maxHeartbeats 4000000 in
theorem lp_X8_laysAllowed_93 {a3 : Int32} {E : jv_E} (hE : jv_Cx E RX8 cX8_laysAllowed 5 4) : ∀ (n : Nat) (v4 : Int32) (σ : jv_S) (q : Int32 × jv_S), f_X8_laysAllowed_lp93 a3 n v4 σ = some q → (jv_V E 131 [some (.ref 35), none, none, some (.int a3), none] [] q.2) → jv_V E 93 [some (.ref 35), none, none, some (.int a3), some (.int v4)] [] σ := by
  intro n
  induction n with
  | zero =>
    intro v4 σ q h
    rw [f_X8_laysAllowed_lp93] at h
    cases h
  | succ n ih =>
    intro v4 σ q h hk
    rw [f_X8_laysAllowed_lp93] at h
    refine jv_iload (x := v4) (pc' := 95) hE dX8_laysAllowed_93 rfl rfl ?_
    refine jv_iconst (v := (-1 : Int32)) (pc' := 96) hE dX8_laysAllowed_95 rfl (by decide) ?_
    refine jv_icmp_eq (x := v4) (y := (-1 : Int32)) (tgt := 131) (pc' := 99) hE dX8_laysAllowed_96 (by decide) rfl (fun c15 => ?_) (fun c15 => ?_)
    · rw [if_pos c15] at h
      cases h
      exact jv_forget [true, true, true, true, false] hk
    · rw [if_neg c15] at h
      refine jv_aload_n (x := 35) (pc' := 100) hE dX8_laysAllowed_99 rfl 0 rfl rfl ?_
      refine jv_get (v := .ref 60) (pc' := 103) hE dX8_laysAllowed_100 rfl lF_X8_87 rfl rfl rfl ?_
      refine jv_aload_n (x := 35) (pc' := 104) hE dX8_laysAllowed_103 rfl 0 rfl rfl ?_
      refine jv_get (v := .int (σ.1 35 43)) (pc' := 107) hE dX8_laysAllowed_104 rfl lF_X8_227 rfl rfl rfl ?_
      refine jv_iload (x := v4) (pc' := 109) hE dX8_laysAllowed_107 rfl rfl ?_
      by_cases c16 : jv_ck (σ.1 35 43) 24 = true
      · rw [if_pos c16] at h
        refine jv_iast (pc' := 110) hE dX8_laysAllowed_109 rfl rfl (jv_ck_in c16) ?_
        refine jv_aload_n (x := 35) (pc' := 111) hE dX8_laysAllowed_110 rfl 0 rfl rfl ?_
        refine jv_dup (pc' := 112) hE dX8_laysAllowed_111 rfl rfl ?_
        refine jv_get (v := .int (σ.1 35 43)) (pc' := 115) hE dX8_laysAllowed_112 rfl lF_X8_227 rfl rfl rfl ?_
        refine jv_iconst (v := (1 : Int32)) (pc' := 116) hE dX8_laysAllowed_115 rfl (by decide) ?_
        refine jv_iadd (x := (σ.1 35 43)) (y := (1 : Int32)) (pc' := 117) hE dX8_laysAllowed_116 rfl ?_
        refine jv_puti (x := ((σ.1 35 43) + (1 : Int32))) (pc' := 120) hE dX8_laysAllowed_117 rfl lP_X8_227 rfl rfl rfl rfl ?_
        refine jv_aload_n (x := 35) (pc' := 121) hE dX8_laysAllowed_120 rfl 0 rfl rfl ?_
        refine jv_iload (x := v4) (pc' := 123) hE dX8_laysAllowed_121 rfl rfl ?_
        obtain ⟨q17, hq17, h⟩ := jv_bd_some h
        refine jv_callV (pc' := 126) (o := some (.int q17)) (σ' := (jv_si (jv_si σ 60 (σ.1 35 43).toNatClampNeg v4) 35 43 ((σ.1 35 43) + (1 : Int32)))) hE dX8_laysAllowed_123 rfl lV_X8_233 (ok_X8_nextOf hq17) rfl rfl rfl (by decide) rfl (Nat.le_of_ble_eq_true rfl) ?_
        show jv_V E 126 [some (.ref 35), none, none, some (.int a3), some (.int v4)] [.int q17] (jv_si (jv_si σ 60 (σ.1 35 43).toNatClampNeg v4) 35 43 ((σ.1 35 43) + (1 : Int32)))
        refine jv_istore (x := q17) (L' := [some (.ref 35), none, none, some (.int a3), some (.int q17)]) (pc' := 128) hE dX8_laysAllowed_126 rfl (by decide) rfl rfl ?_
        refine jv_goto (tgt := 93) hE dX8_laysAllowed_128 (by decide) ?_
        exact jv_forget [true, true, true, true, true] (ih q17 (jv_si (jv_si σ 60 (σ.1 35 43).toNatClampNeg v4) 35 43 ((σ.1 35 43) + (1 : Int32))) _ h hk)
      · rw [if_neg c16] at h; cases h
set_option maxRecDepth 100000 in
set_option maxHeartbeats 4000000 in
theorem ok_X8_laysAllowed {G : jv_G} {l : Launch} {σ : jv_S} {p1 : Int32} {p2 : Int32} {r : Int32 × jv_S} (h : f_X8_laysAllowed σ p1 p2 = some r) : jv_Cn G l 4 M_X8_laysAllowed [.ref 35, .int p1, .int p2] σ (some (.int r.1)) r.2 := by
  refine jv_of (L0 := [some (.ref 35), some (.int p1), some (.int p2), none, none]) (by decide +kernel) (Nat.le_of_ble_eq_true rfl) rfl (jv_okI _) (fun E e1 e2 hE hret => ?_)
  unfold f_X8_laysAllowed at h
  refine jv_aload_n (x := 35) (pc' := 1) hE dX8_laysAllowed_0 rfl 0 rfl rfl ?_
  refine jv_iconst (v := (0 : Int32)) (pc' := 2) hE dX8_laysAllowed_1 rfl (by decide) ?_
  refine jv_puti (x := (0 : Int32)) (pc' := 5) hE dX8_laysAllowed_2 rfl lP_X8_227 rfl rfl rfl rfl ?_
  refine jv_iload_n (x := p1) (pc' := 6) hE dX8_laysAllowed_5 rfl 1 rfl rfl ?_
  refine jv_iload_n (x := p2) (pc' := 7) hE dX8_laysAllowed_6 rfl 2 rfl rfl ?_
  refine jv_icmp_ne (x := p1) (y := p2) (tgt := 12) (pc' := 10) hE dX8_laysAllowed_7 (by decide) rfl (fun c1 => ?_) (fun c1 => ?_)
  · rw [if_neg c1] at h
    refine jv_aload_n (x := 35) (pc' := 13) hE dX8_laysAllowed_12 rfl 0 rfl rfl ?_
    refine jv_iload_n (x := p2) (pc' := 14) hE dX8_laysAllowed_13 rfl 2 rfl rfl ?_
    obtain ⟨q2, hq2, h⟩ := jv_bd_some h
    refine jv_callV (pc' := 17) (o := none) (σ' := q2) hE dX8_laysAllowed_14 rfl lV_X8_230 (ok_X8_laysRests hq2) rfl rfl rfl (by decide) rfl (Nat.le_of_ble_eq_true rfl) ?_
    show jv_V E 17 [some (.ref 35), some (.int p1), some (.int p2), none, none] [] q2
    refine jv_iconst (v := (-1 : Int32)) (pc' := 18) hE dX8_laysAllowed_17 rfl (by decide) ?_
    refine jv_istore_n (x := (-1 : Int32)) (L' := [some (.ref 35), some (.int p1), some (.int p2), some (.int (-1 : Int32)), none]) (pc' := 19) hE dX8_laysAllowed_18 rfl 3 rfl (by decide) rfl rfl ?_
    refine jv_iconst (v := (0 : Int32)) (pc' := 20) hE dX8_laysAllowed_19 rfl (by decide) ?_
    refine jv_istore (x := (0 : Int32)) (L' := [some (.ref 35), some (.int p1), some (.int p2), some (.int (-1 : Int32)), some (.int (0 : Int32))]) (pc' := 22) hE dX8_laysAllowed_20 rfl (by decide) rfl rfl ?_
    obtain ⟨q13, hq13, h⟩ := jv_bd_some h
    refine jv_forget [true, true, false, true, true] (lp_X8_laysAllowed_22 hE jv_fuel (-1 : Int32) (0 : Int32) _ hq13 ?_)
    refine jv_iload_n (x := q13.1) (pc' := 84) hE dX8_laysAllowed_83 rfl 3 rfl rfl ?_
    refine jv_if_ge (x := q13.1) (tgt := 90) (pc' := 87) hE dX8_laysAllowed_84 (by decide) rfl (fun c14 => ?_) (fun c14 => ?_)
    · rw [if_pos c14] at h
      refine jv_iload_n (x := q13.1) (pc' := 91) hE dX8_laysAllowed_90 rfl 3 rfl rfl ?_
      refine jv_istore (x := q13.1) (L' := [some (.ref 35), none, none, some (.int q13.1), some (.int q13.1)]) (pc' := 93) hE dX8_laysAllowed_91 rfl (by decide) rfl rfl ?_
      obtain ⟨q18, hq18, h⟩ := jv_bd_some h
      refine jv_forget [true, true, true, true, true] (lp_X8_laysAllowed_93 hE jv_fuel q13.1 q2 _ hq18 ?_)
      refine jv_aload_n (x := 35) (pc' := 132) hE dX8_laysAllowed_131 rfl 0 rfl rfl ?_
      refine jv_get (v := .ref 59) (pc' := 135) hE dX8_laysAllowed_132 rfl lF_X8_84 rfl rfl rfl ?_
      refine jv_iload_n (x := q13.1) (pc' := 136) hE dX8_laysAllowed_135 rfl 3 rfl rfl ?_
      by_cases c19 : jv_ck q13.1 24 = true
      · rw [if_pos c19] at h
        refine jv_iald (pc' := 137) hE dX8_laysAllowed_136 rfl rfl (jv_ck_in c19) ?_
        show jv_V E 137 [some (.ref 35), none, none, some (.int q13.1), none] [.int (q18.2.1 59 q13.1.toNatClampNeg)] q18.2
        cases h
        exact hret _ _ dX8_laysAllowed_137
      · rw [if_neg c19] at h; cases h
    · rw [if_neg c14] at h
      refine jv_ldc (v := (1000000000 : Int32)) (pc' := 89) hE dX8_laysAllowed_87 rfl lC_X8_130 ?_
      cases h
      exact hret _ _ dX8_laysAllowed_89
  · rw [if_pos c1] at h
    refine jv_iconst (v := (0 : Int32)) (pc' := 11) hE dX8_laysAllowed_10 rfl (by decide) ?_
    cases h
    exact hret _ _ dX8_laysAllowed_11
noncomputable def f_X8_errorOfAllowed (σ : jv_S) (p1 : Int32) (p2 : Int32) : Option (Int32 × jv_S) := jv_bd (if (f_X8_areNodes σ p1 p2) = true then (jv_bd (f_X8_laysAllowed σ p1 p2) (fun q3 => if q3.1 = (1000000000 : Int32) then (some ((2 : Int32), q3.2)) else (some ((0 : Int32), q3.2)))) else (some ((1 : Int32), σ))) (fun q2 => some (q2.1, q2.2))
set_option maxRecDepth 100000 in
set_option maxHeartbeats 4000000 in
theorem ok_X8_errorOfAllowed {G : jv_G} {l : Launch} {σ : jv_S} {p1 : Int32} {p2 : Int32} {r : Int32 × jv_S} (h : f_X8_errorOfAllowed σ p1 p2 = some r) : jv_Cn G l 5 M_X8_errorOfAllowed [.ref 35, .int p1, .int p2] σ (some (.int r.1)) r.2 := by
  refine jv_of (L0 := [some (.ref 35), some (.int p1), some (.int p2)]) (by decide +kernel) (Nat.le_of_ble_eq_true rfl) rfl (jv_okI _) (fun E e1 e2 hE hret => ?_)
  unfold f_X8_errorOfAllowed at h
  refine jv_aload_n (x := 35) (pc' := 1) hE dX8_errorOfAllowed_0 rfl 0 rfl rfl ?_
  refine jv_iload_n (x := p1) (pc' := 2) hE dX8_errorOfAllowed_1 rfl 1 rfl rfl ?_
  refine jv_iload_n (x := p2) (pc' := 3) hE dX8_errorOfAllowed_2 rfl 2 rfl rfl ?_
  refine jv_callV (pc' := 6) (o := some (.int (jv_b (f_X8_areNodes σ p1 p2)))) (σ' := σ) hE dX8_errorOfAllowed_3 rfl lV_X8_101 (ok_X8_areNodes rfl) rfl rfl rfl (by decide) rfl (Nat.le_of_ble_eq_true rfl) ?_
  show jv_V E 6 [some (.ref 35), some (.int p1), some (.int p2)] [.int (jv_b (f_X8_areNodes σ p1 p2))] σ
  obtain ⟨q2, hq2, h⟩ := jv_bd_some h
  have kq2 : jv_V E 29 [none, none, none] [.int q2.1] q2.2 := by
    cases h
    exact hret _ _ dX8_errorOfAllowed_29
  refine jv_if_ne (x := (jv_b (f_X8_areNodes σ p1 p2))) (tgt := 13) (pc' := 9) hE dX8_errorOfAllowed_6 (by decide) rfl (fun c1 => ?_) (fun c1 => ?_)
  · have c1 := jv_b1 c1
    rw [if_pos c1] at hq2
    refine jv_aload_n (x := 35) (pc' := 14) hE dX8_errorOfAllowed_13 rfl 0 rfl rfl ?_
    refine jv_iload_n (x := p1) (pc' := 15) hE dX8_errorOfAllowed_14 rfl 1 rfl rfl ?_
    refine jv_iload_n (x := p2) (pc' := 16) hE dX8_errorOfAllowed_15 rfl 2 rfl rfl ?_
    obtain ⟨q3, hq3, hq2⟩ := jv_bd_some hq2
    refine jv_callV (pc' := 19) (o := some (.int q3.1)) (σ' := q3.2) hE dX8_errorOfAllowed_16 rfl lV_X8_237 (ok_X8_laysAllowed hq3) rfl rfl rfl (by decide) rfl (Nat.le_of_ble_eq_true rfl) ?_
    show jv_V E 19 [some (.ref 35), some (.int p1), some (.int p2)] [.int q3.1] q3.2
    refine jv_ldc (v := (1000000000 : Int32)) (pc' := 21) hE dX8_errorOfAllowed_19 rfl lC_X8_130 ?_
    refine jv_icmp_ne (x := q3.1) (y := (1000000000 : Int32)) (tgt := 28) (pc' := 24) hE dX8_errorOfAllowed_21 (by decide) rfl (fun c4 => ?_) (fun c4 => ?_)
    · rw [if_neg c4] at hq2
      refine jv_iconst (v := (0 : Int32)) (pc' := 29) hE dX8_errorOfAllowed_28 rfl (by decide) ?_
      cases hq2
      exact jv_forget [false, false, false] kq2
    · rw [if_pos c4] at hq2
      refine jv_iconst (v := (2 : Int32)) (pc' := 25) hE dX8_errorOfAllowed_24 rfl (by decide) ?_
      refine jv_goto (tgt := 29) hE dX8_errorOfAllowed_25 (by decide) ?_
      cases hq2
      exact jv_forget [false, false, false] kq2
  · have c1 := jv_b0 c1
    rw [if_neg c1] at hq2
    refine jv_iconst (v := (1 : Int32)) (pc' := 10) hE dX8_errorOfAllowed_9 rfl (by decide) ?_
    refine jv_goto (tgt := 29) hE dX8_errorOfAllowed_10 (by decide) ?_
    cases hq2
    exact jv_forget [false, false, false] kq2
noncomputable def f_X8_allowedLength (σ : jv_S) (p1 : Int32) (p2 : Int32) : Option (Int32 × jv_S) := jv_bd (f_X8_errorOfAllowed σ p1 p2) (fun q1 => jv_lt (f_X8_holds q1.2 q1.1) (fun q2 => jv_bd (if q2.1 = true then (jv_bd (f_X8_laysAllowed q2.2 p1 p2) (fun q5 => some (q5.1, q5.2))) else (some ((0 : Int32), q2.2))) (fun q4 => some (q4.1, q4.2))))
set_option maxRecDepth 100000 in
set_option maxHeartbeats 4000000 in
theorem ok_X8_allowedLength {G : jv_G} {l : Launch} {σ : jv_S} {p1 : Int32} {p2 : Int32} {r : Int32 × jv_S} (h : f_X8_allowedLength σ p1 p2 = some r) : jv_Cn G l 6 M_X8_allowedLength [.ref 35, .int p1, .int p2] σ (some (.int r.1)) r.2 := by
  refine jv_of (L0 := [some (.ref 35), some (.int p1), some (.int p2)]) (by decide +kernel) (Nat.le_of_ble_eq_true rfl) rfl (jv_okI _) (fun E e1 e2 hE hret => ?_)
  unfold f_X8_allowedLength at h
  refine jv_aload_n (x := 35) (pc' := 1) hE dX8_allowedLength_0 rfl 0 rfl rfl ?_
  refine jv_aload_n (x := 35) (pc' := 2) hE dX8_allowedLength_1 rfl 0 rfl rfl ?_
  refine jv_iload_n (x := p1) (pc' := 3) hE dX8_allowedLength_2 rfl 1 rfl rfl ?_
  refine jv_iload_n (x := p2) (pc' := 4) hE dX8_allowedLength_3 rfl 2 rfl rfl ?_
  obtain ⟨q1, hq1, h⟩ := jv_bd_some h
  refine jv_callV (pc' := 7) (o := some (.int q1.1)) (σ' := q1.2) hE dX8_allowedLength_4 rfl lV_X8_240 (ok_X8_errorOfAllowed hq1) rfl rfl rfl (by decide) rfl (Nat.le_of_ble_eq_true rfl) ?_
  show jv_V E 7 [some (.ref 35), some (.int p1), some (.int p2)] [.int q1.1, .ref 35] q1.2
  obtain ⟨q2, hq2, h⟩ := jv_lt_eq h
  refine jv_callV (pc' := 10) (o := some (.int (jv_b q2.1))) (σ' := q2.2) hE dX8_allowedLength_7 rfl lV_X8_115 (ok_X8_holds hq2) rfl rfl rfl (by decide) rfl (Nat.le_of_ble_eq_true rfl) ?_
  show jv_V E 10 [some (.ref 35), some (.int p1), some (.int p2)] [.int (jv_b q2.1)] q2.2
  obtain ⟨q4, hq4, h⟩ := jv_bd_some h
  have kq4 : jv_V E 23 [none, none, none] [.int q4.1] q4.2 := by
    cases h
    exact hret _ _ dX8_allowedLength_23
  refine jv_if_eq (x := (jv_b q2.1)) (tgt := 22) (pc' := 13) hE dX8_allowedLength_10 (by decide) rfl (fun c3 => ?_) (fun c3 => ?_)
  · have c3 := jv_b0 c3
    rw [if_neg c3] at hq4
    refine jv_iconst (v := (0 : Int32)) (pc' := 23) hE dX8_allowedLength_22 rfl (by decide) ?_
    cases hq4
    exact jv_forget [false, false, false] kq4
  · have c3 := jv_b1 c3
    rw [if_pos c3] at hq4
    refine jv_aload_n (x := 35) (pc' := 14) hE dX8_allowedLength_13 rfl 0 rfl rfl ?_
    refine jv_iload_n (x := p1) (pc' := 15) hE dX8_allowedLength_14 rfl 1 rfl rfl ?_
    refine jv_iload_n (x := p2) (pc' := 16) hE dX8_allowedLength_15 rfl 2 rfl rfl ?_
    obtain ⟨q5, hq5, hq4⟩ := jv_bd_some hq4
    refine jv_callV (pc' := 19) (o := some (.int q5.1)) (σ' := q5.2) hE dX8_allowedLength_16 rfl lV_X8_237 (ok_X8_laysAllowed hq5) rfl rfl rfl (by decide) rfl (Nat.le_of_ble_eq_true rfl) ?_
    show jv_V E 19 [some (.ref 35), some (.int p1), some (.int p2)] [.int q5.1] q5.2
    refine jv_goto (tgt := 23) hE dX8_allowedLength_19 (by decide) ?_
    cases hq4
    exact jv_forget [false, false, false] kq4
noncomputable def f_X8_allowedEdges (σ : jv_S) (p1 : Int32) (p2 : Int32) : Option (Int32 × jv_S) := jv_bd (f_X8_errorOfAllowed σ p1 p2) (fun q1 => jv_lt (f_X8_holds q1.2 q1.1) (fun q2 => jv_lt (if q2.1 = true then ((q2.2.1 35 43)) else ((0 : Int32))) (fun q4 => some (q4, q2.2))))
set_option maxRecDepth 100000 in
set_option maxHeartbeats 4000000 in
theorem ok_X8_allowedEdges {G : jv_G} {l : Launch} {σ : jv_S} {p1 : Int32} {p2 : Int32} {r : Int32 × jv_S} (h : f_X8_allowedEdges σ p1 p2 = some r) : jv_Cn G l 6 M_X8_allowedEdges [.ref 35, .int p1, .int p2] σ (some (.int r.1)) r.2 := by
  refine jv_of (L0 := [some (.ref 35), some (.int p1), some (.int p2)]) (by decide +kernel) (Nat.le_of_ble_eq_true rfl) rfl (jv_okI _) (fun E e1 e2 hE hret => ?_)
  unfold f_X8_allowedEdges at h
  refine jv_aload_n (x := 35) (pc' := 1) hE dX8_allowedEdges_0 rfl 0 rfl rfl ?_
  refine jv_aload_n (x := 35) (pc' := 2) hE dX8_allowedEdges_1 rfl 0 rfl rfl ?_
  refine jv_iload_n (x := p1) (pc' := 3) hE dX8_allowedEdges_2 rfl 1 rfl rfl ?_
  refine jv_iload_n (x := p2) (pc' := 4) hE dX8_allowedEdges_3 rfl 2 rfl rfl ?_
  obtain ⟨q1, hq1, h⟩ := jv_bd_some h
  refine jv_callV (pc' := 7) (o := some (.int q1.1)) (σ' := q1.2) hE dX8_allowedEdges_4 rfl lV_X8_240 (ok_X8_errorOfAllowed hq1) rfl rfl rfl (by decide) rfl (Nat.le_of_ble_eq_true rfl) ?_
  show jv_V E 7 [some (.ref 35), some (.int p1), some (.int p2)] [.int q1.1, .ref 35] q1.2
  obtain ⟨q2, hq2, h⟩ := jv_lt_eq h
  refine jv_callV (pc' := 10) (o := some (.int (jv_b q2.1))) (σ' := q2.2) hE dX8_allowedEdges_7 rfl lV_X8_115 (ok_X8_holds hq2) rfl rfl rfl (by decide) rfl (Nat.le_of_ble_eq_true rfl) ?_
  show jv_V E 10 [some (.ref 35), some (.int p1), some (.int p2)] [.int (jv_b q2.1)] q2.2
  obtain ⟨q4, hq4, h⟩ := jv_lt_eq h
  have kq4 : jv_V E 21 [none, none, none] [.int q4] q2.2 := by
    cases h
    exact hret _ _ dX8_allowedEdges_21
  refine jv_if_eq (x := (jv_b q2.1)) (tgt := 20) (pc' := 13) hE dX8_allowedEdges_10 (by decide) rfl (fun c3 => ?_) (fun c3 => ?_)
  · have c3 := jv_b0 c3
    rw [if_neg c3] at hq4
    refine jv_iconst (v := (0 : Int32)) (pc' := 21) hE dX8_allowedEdges_20 rfl (by decide) ?_
    cases hq4
    exact jv_forget [false, false, false] kq4
  · have c3 := jv_b1 c3
    rw [if_pos c3] at hq4
    refine jv_aload_n (x := 35) (pc' := 14) hE dX8_allowedEdges_13 rfl 0 rfl rfl ?_
    refine jv_get (v := .int (q2.2.1 35 43)) (pc' := 17) hE dX8_allowedEdges_14 rfl lF_X8_227 rfl rfl rfl ?_
    refine jv_goto (tgt := 21) hE dX8_allowedEdges_17 (by decide) ?_
    cases hq4
    exact jv_forget [false, false, false] kq4
noncomputable def f_X8_allowedEdge (σ : jv_S) (p1 : Int32) (p2 : Int32) (p3 : Int32) : Option (Int32 × jv_S) := jv_bd (f_X8_errorOfAllowed σ p1 p2) (fun q1 => jv_lt (f_X8_holds q1.2 q1.1) (fun q2 => if q2.1 = true then (jv_lt (if (f_X8_in q2.2 p3 (0 : Int32) ((q2.2.1 35 43) - (1 : Int32))) = true then ((0 : Int32)) else ((2 : Int32))) (fun q5 => jv_lt (f_X8_holds q2.2 q5) (fun q6 => jv_bd (if q6.1 = true then (if jv_ck p3 24 = true then (some (q6.2.1 60 p3.toNatClampNeg)) else none) else (some (0 : Int32))) (fun q8 => some (q8, q6.2))))) else (some ((0 : Int32), q2.2))))
set_option maxRecDepth 100000 in
set_option maxHeartbeats 4000000 in
theorem ok_X8_allowedEdge {G : jv_G} {l : Launch} {σ : jv_S} {p1 : Int32} {p2 : Int32} {p3 : Int32} {r : Int32 × jv_S} (h : f_X8_allowedEdge σ p1 p2 p3 = some r) : jv_Cn G l 6 M_X8_allowedEdge [.ref 35, .int p1, .int p2, .int p3] σ (some (.int r.1)) r.2 := by
  refine jv_of (L0 := [some (.ref 35), some (.int p1), some (.int p2), some (.int p3)]) (by decide +kernel) (Nat.le_of_ble_eq_true rfl) rfl (jv_okI _) (fun E e1 e2 hE hret => ?_)
  unfold f_X8_allowedEdge at h
  refine jv_aload_n (x := 35) (pc' := 1) hE dX8_allowedEdge_0 rfl 0 rfl rfl ?_
  refine jv_aload_n (x := 35) (pc' := 2) hE dX8_allowedEdge_1 rfl 0 rfl rfl ?_
  refine jv_iload_n (x := p1) (pc' := 3) hE dX8_allowedEdge_2 rfl 1 rfl rfl ?_
  refine jv_iload_n (x := p2) (pc' := 4) hE dX8_allowedEdge_3 rfl 2 rfl rfl ?_
  obtain ⟨q1, hq1, h⟩ := jv_bd_some h
  refine jv_callV (pc' := 7) (o := some (.int q1.1)) (σ' := q1.2) hE dX8_allowedEdge_4 rfl lV_X8_240 (ok_X8_errorOfAllowed hq1) rfl rfl rfl (by decide) rfl (Nat.le_of_ble_eq_true rfl) ?_
  show jv_V E 7 [some (.ref 35), some (.int p1), some (.int p2), some (.int p3)] [.int q1.1, .ref 35] q1.2
  obtain ⟨q2, hq2, h⟩ := jv_lt_eq h
  refine jv_callV (pc' := 10) (o := some (.int (jv_b q2.1))) (σ' := q2.2) hE dX8_allowedEdge_7 rfl lV_X8_115 (ok_X8_holds hq2) rfl rfl rfl (by decide) rfl (Nat.le_of_ble_eq_true rfl) ?_
  show jv_V E 10 [some (.ref 35), some (.int p1), some (.int p2), some (.int p3)] [.int (jv_b q2.1)] q2.2
  refine jv_if_ne (x := (jv_b q2.1)) (tgt := 15) (pc' := 13) hE dX8_allowedEdge_10 (by decide) rfl (fun c3 => ?_) (fun c3 => ?_)
  · have c3 := jv_b1 c3
    rw [if_pos c3] at h
    refine jv_aload_n (x := 35) (pc' := 16) hE dX8_allowedEdge_15 rfl 0 rfl rfl ?_
    refine jv_iload_n (x := p3) (pc' := 17) hE dX8_allowedEdge_16 rfl 3 rfl rfl ?_
    refine jv_iconst (v := (0 : Int32)) (pc' := 18) hE dX8_allowedEdge_17 rfl (by decide) ?_
    refine jv_aload_n (x := 35) (pc' := 19) hE dX8_allowedEdge_18 rfl 0 rfl rfl ?_
    refine jv_get (v := .int (q2.2.1 35 43)) (pc' := 22) hE dX8_allowedEdge_19 rfl lF_X8_227 rfl rfl rfl ?_
    refine jv_iconst (v := (1 : Int32)) (pc' := 23) hE dX8_allowedEdge_22 rfl (by decide) ?_
    refine jv_isub (x := (q2.2.1 35 43)) (y := (1 : Int32)) (pc' := 24) hE dX8_allowedEdge_23 rfl ?_
    refine jv_callS (pc' := 27) (o := some (.int (jv_b (f_X8_in q2.2 p3 (0 : Int32) ((q2.2.1 35 43) - (1 : Int32)))))) (σ' := q2.2) hE dX8_allowedEdge_24 rfl lS_X8_93 (ok_X8_in rfl) rfl (by decide) rfl (Nat.le_of_ble_eq_true rfl) ?_
    show jv_V E 27 [some (.ref 35), some (.int p1), some (.int p2), some (.int p3)] [.int (jv_b (f_X8_in q2.2 p3 (0 : Int32) ((q2.2.1 35 43) - (1 : Int32)))), .ref 35] q2.2
    obtain ⟨q5, hq5, h⟩ := jv_lt_eq h
    have kq5 : jv_V E 35 [some (.ref 35), none, none, some (.int p3)] [.int q5, .ref 35] q2.2 := by
      obtain ⟨q6, hq6, h⟩ := jv_lt_eq h
      refine jv_callV (pc' := 38) (o := some (.int (jv_b q6.1))) (σ' := q6.2) hE dX8_allowedEdge_35 rfl lV_X8_115 (ok_X8_holds hq6) rfl rfl rfl (by decide) rfl (Nat.le_of_ble_eq_true rfl) ?_
      show jv_V E 38 [some (.ref 35), none, none, some (.int p3)] [.int (jv_b q6.1)] q6.2
      obtain ⟨q8, hq8, h⟩ := jv_bd_some h
      have kq8 : jv_V E 51 [none, none, none, none] [.int q8] q6.2 := by
        cases h
        exact hret _ _ dX8_allowedEdge_51
      refine jv_if_eq (x := (jv_b q6.1)) (tgt := 50) (pc' := 41) hE dX8_allowedEdge_38 (by decide) rfl (fun c7 => ?_) (fun c7 => ?_)
      · have c7 := jv_b0 c7
        rw [if_neg c7] at hq8
        refine jv_iconst (v := (0 : Int32)) (pc' := 51) hE dX8_allowedEdge_50 rfl (by decide) ?_
        cases hq8
        exact jv_forget [false, true, true, false] kq8
      · have c7 := jv_b1 c7
        rw [if_pos c7] at hq8
        refine jv_aload_n (x := 35) (pc' := 42) hE dX8_allowedEdge_41 rfl 0 rfl rfl ?_
        refine jv_get (v := .ref 60) (pc' := 45) hE dX8_allowedEdge_42 rfl lF_X8_87 rfl rfl rfl ?_
        refine jv_iload_n (x := p3) (pc' := 46) hE dX8_allowedEdge_45 rfl 3 rfl rfl ?_
        by_cases c9 : jv_ck p3 24 = true
        · rw [if_pos c9] at hq8
          refine jv_iald (pc' := 47) hE dX8_allowedEdge_46 rfl rfl (jv_ck_in c9) ?_
          show jv_V E 47 [some (.ref 35), none, none, some (.int p3)] [.int (q6.2.1 60 p3.toNatClampNeg)] q6.2
          refine jv_goto (tgt := 51) hE dX8_allowedEdge_47 (by decide) ?_
          cases hq8
          exact jv_forget [false, true, true, false] kq8
        · rw [if_neg c9] at hq8; cases hq8
    refine jv_if_eq (x := (jv_b (f_X8_in q2.2 p3 (0 : Int32) ((q2.2.1 35 43) - (1 : Int32))))) (tgt := 34) (pc' := 30) hE dX8_allowedEdge_27 (by decide) rfl (fun c4 => ?_) (fun c4 => ?_)
    · have c4 := jv_b0 c4
      rw [if_neg c4] at hq5
      refine jv_iconst (v := (2 : Int32)) (pc' := 35) hE dX8_allowedEdge_34 rfl (by decide) ?_
      cases hq5
      exact jv_forget [true, false, false, true] kq5
    · have c4 := jv_b1 c4
      rw [if_pos c4] at hq5
      refine jv_iconst (v := (0 : Int32)) (pc' := 31) hE dX8_allowedEdge_30 rfl (by decide) ?_
      refine jv_goto (tgt := 35) hE dX8_allowedEdge_31 (by decide) ?_
      cases hq5
      exact jv_forget [true, false, false, true] kq5
  · have c3 := jv_b0 c3
    rw [if_neg c3] at h
    refine jv_iconst (v := (0 : Int32)) (pc' := 14) hE dX8_allowedEdge_13 rfl (by decide) ?_
    cases h
    exact hret _ _ dX8_allowedEdge_14
