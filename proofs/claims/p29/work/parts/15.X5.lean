noncomputable def f_X5_restart (σ : jv_S) (p1 : Int32) (p2 : Int32) : jv_S := (jv_si (jv_si (jv_sl (jv_si (jv_si (jv_si σ 10 5 p1) 10 6 p2) 10 7 (0 : Int32)) 10 8 (0 : Int64)) 10 3 (0 : Int32)) 10 4 (0 : Int32))
set_option maxRecDepth 100000 in
set_option maxHeartbeats 4000000 in
theorem ok_X5_restart {G : jv_G} {l : Launch} {σ : jv_S} {p1 : Int32} {p2 : Int32} {r : jv_S} (h : f_X5_restart σ p1 p2 = r) : jv_Cn G l 1 M_X5_restart [.ref 10, .int p1, .int p2] σ (none) r := by
  refine jv_of (L0 := [some (.ref 10), some (.int p1), some (.int p2)]) (by decide +kernel) (Nat.le_of_ble_eq_true rfl) rfl jv_okV (fun E e1 e2 hE hret => ?_)
  unfold f_X5_restart at h
  refine jv_aload_n (x := 10) (pc' := 1) hE dX5_restart_0 rfl 0 rfl rfl ?_
  refine jv_iload_n (x := p1) (pc' := 2) hE dX5_restart_1 rfl 1 rfl rfl ?_
  refine jv_puti (x := p1) (pc' := 5) hE dX5_restart_2 rfl lP_X5_28 rfl rfl rfl rfl ?_
  refine jv_aload_n (x := 10) (pc' := 6) hE dX5_restart_5 rfl 0 rfl rfl ?_
  refine jv_iload_n (x := p2) (pc' := 7) hE dX5_restart_6 rfl 2 rfl rfl ?_
  refine jv_puti (x := p2) (pc' := 10) hE dX5_restart_7 rfl lP_X5_32 rfl rfl rfl rfl ?_
  refine jv_aload_n (x := 10) (pc' := 11) hE dX5_restart_10 rfl 0 rfl rfl ?_
  refine jv_iconst (v := (0 : Int32)) (pc' := 12) hE dX5_restart_11 rfl (by decide) ?_
  refine jv_puti (x := (0 : Int32)) (pc' := 15) hE dX5_restart_12 rfl lP_X5_35 rfl rfl rfl rfl ?_
  refine jv_aload_n (x := 10) (pc' := 16) hE dX5_restart_15 rfl 0 rfl rfl ?_
  refine jv_lconst (v := (0 : Int64)) (pc' := 17) hE dX5_restart_16 rfl (by decide) ?_
  refine jv_putl (x := (0 : Int64)) (pc' := 20) hE dX5_restart_17 rfl lP_X5_38 rfl rfl rfl rfl ?_
  refine jv_aload_n (x := 10) (pc' := 21) hE dX5_restart_20 rfl 0 rfl rfl ?_
  refine jv_iconst (v := (0 : Int32)) (pc' := 22) hE dX5_restart_21 rfl (by decide) ?_
  refine jv_puti (x := (0 : Int32)) (pc' := 25) hE dX5_restart_22 rfl lP_X5_42 rfl rfl rfl rfl ?_
  refine jv_aload_n (x := 10) (pc' := 26) hE dX5_restart_25 rfl 0 rfl rfl ?_
  refine jv_iconst (v := (0 : Int32)) (pc' := 27) hE dX5_restart_26 rfl (by decide) ?_
  refine jv_puti (x := (0 : Int32)) (pc' := 30) hE dX5_restart_27 rfl lP_X5_45 rfl rfl rfl rfl ?_
  cases h
  exact hret _ _ dX5_restart_30
noncomputable def f_X5_ofLength (σ : jv_S) (p1 : Int32) : Int64 := (p1.toInt64 <<< ((45 : Int32).toInt64 &&& 63))
set_option maxRecDepth 100000 in
set_option maxHeartbeats 4000000 in
theorem ok_X5_ofLength {G : jv_G} {l : Launch} {σ : jv_S} {p1 : Int32} {r : Int64} (h : f_X5_ofLength σ p1 = r) : jv_Cn G l 1 M_X5_ofLength [.int p1] σ (some (.long r)) σ := by
  refine jv_of (L0 := [some (.int p1)]) (by decide +kernel) (Nat.le_of_ble_eq_true rfl) rfl (jv_okJ _) (fun E e1 e2 hE hret => ?_)
  unfold f_X5_ofLength at h
  refine jv_iload_n (x := p1) (pc' := 1) hE dX5_ofLength_0 rfl 0 rfl rfl ?_
  refine jv_i2l (x := p1) (pc' := 2) hE dX5_ofLength_1 rfl ?_
  refine jv_bipush (v := (45 : Int32)) (pc' := 4) hE dX5_ofLength_2 rfl (by decide) ?_
  refine jv_lshl (x := p1.toInt64) (y := (45 : Int32)) (pc' := 5) hE dX5_ofLength_4 rfl ?_
  cases h
  exact hret _ _ dX5_ofLength_5
noncomputable def f_X5_slotShift (σ : jv_S) (p1 : Int32) : Int32 := (((8 : Int32) - p1) * (5 : Int32))
set_option maxRecDepth 100000 in
set_option maxHeartbeats 4000000 in
theorem ok_X5_slotShift {G : jv_G} {l : Launch} {σ : jv_S} {p1 : Int32} {r : Int32} (h : f_X5_slotShift σ p1 = r) : jv_Cn G l 1 M_X5_slotShift [.int p1] σ (some (.int r)) σ := by
  refine jv_of (L0 := [some (.int p1)]) (by decide +kernel) (Nat.le_of_ble_eq_true rfl) rfl (jv_okI _) (fun E e1 e2 hE hret => ?_)
  unfold f_X5_slotShift at h
  refine jv_bipush (v := (8 : Int32)) (pc' := 2) hE dX5_slotShift_0 rfl (by decide) ?_
  refine jv_iload_n (x := p1) (pc' := 3) hE dX5_slotShift_2 rfl 0 rfl rfl ?_
  refine jv_isub (x := (8 : Int32)) (y := p1) (pc' := 4) hE dX5_slotShift_3 rfl ?_
  refine jv_iconst (v := (5 : Int32)) (pc' := 5) hE dX5_slotShift_4 rfl (by decide) ?_
  refine jv_imul (x := ((8 : Int32) - p1)) (y := (5 : Int32)) (pc' := 6) hE dX5_slotShift_5 rfl ?_
  cases h
  exact hret _ _ dX5_slotShift_6
noncomputable def f_X5_fits (σ : jv_S) (p1 : Int64) : Bool := jv_lt (if (σ.1 10 3) < (16 : Int32) then (true) else (if 0 ≤ (lg_cmp p1 (jv_rd (σ.2 11) 16 0 (15 : Int32))) then (false) else (true))) (fun q2 => q2)
set_option maxRecDepth 100000 in
set_option maxHeartbeats 4000000 in
theorem ok_X5_fits {G : jv_G} {l : Launch} {σ : jv_S} {p1 : Int64} {r : Bool} (h : f_X5_fits σ p1 = r) : jv_Cn G l 2 M_X5_fits [.ref 10, .long p1] σ (some (.int (jv_b r))) σ := by
  refine jv_of (L0 := [some (.ref 10), some (.long p1), none]) (by decide +kernel) (Nat.le_of_ble_eq_true rfl) rfl (jv_okZ _) (fun E e1 e2 hE hret => ?_)
  unfold f_X5_fits at h
  refine jv_aload_n (x := 10) (pc' := 1) hE dX5_fits_0 rfl 0 rfl rfl ?_
  refine jv_get (v := .int (σ.1 10 3)) (pc' := 4) hE dX5_fits_1 rfl lF_X5_42 rfl rfl rfl ?_
  refine jv_bipush (v := (16 : Int32)) (pc' := 6) hE dX5_fits_4 rfl (by decide) ?_
  obtain ⟨q2, hq2, h⟩ := jv_lt_eq h
  have kq2 : jv_V E 28 [none, none, none] [.int (jv_b q2)] σ := by
    cases h
    exact hret _ _ dX5_fits_28
  refine jv_icmp_lt (x := (σ.1 10 3)) (y := (16 : Int32)) (tgt := 23) (pc' := 9) hE dX5_fits_6 (by decide) rfl (fun c1 => ?_) (fun c1 => ?_)
  · rw [if_pos c1] at hq2
    refine jv_iconst (v := (1 : Int32)) (pc' := 24) hE dX5_fits_23 rfl (by decide) ?_
    refine jv_goto (tgt := 28) hE dX5_fits_24 (by decide) ?_
    cases hq2
    exact jv_forget [false, false, true] kq2
  · rw [if_neg c1] at hq2
    refine jv_lload_n (x := p1) (pc' := 10) hE dX5_fits_9 rfl 1 rfl rfl ?_
    refine jv_aload_n (x := 10) (pc' := 11) hE dX5_fits_10 rfl 0 rfl rfl ?_
    refine jv_get (v := .ref 11) (pc' := 14) hE dX5_fits_11 rfl lF_X5_11 rfl rfl rfl ?_
    refine jv_bipush (v := (15 : Int32)) (pc' := 16) hE dX5_fits_14 rfl (by decide) ?_
    refine jv_callN (pc' := 19) (o := some (.long (jv_rd (σ.2 11) 16 0 (15 : Int32)))) (σ' := σ) hE dX5_fits_16 rfl lN_X5_51 (ok_X7_at_ (n := 16) (by decide) rfl rfl) rfl (by decide) rfl (Nat.le_of_ble_eq_true rfl) ?_
    show jv_V E 19 [some (.ref 10), some (.long p1), none] [.long (jv_rd (σ.2 11) 16 0 (15 : Int32)), .long p1] σ
    refine jv_lcmp (x := p1) (y := (jv_rd (σ.2 11) 16 0 (15 : Int32))) (pc' := 20) hE dX5_fits_19 rfl ?_
    refine jv_if_ge (x := (lg_cmp p1 (jv_rd (σ.2 11) 16 0 (15 : Int32)))) (tgt := 27) (pc' := 23) hE dX5_fits_20 (by decide) rfl (fun c3 => ?_) (fun c3 => ?_)
    · rw [if_pos c3] at hq2
      refine jv_iconst (v := (0 : Int32)) (pc' := 28) hE dX5_fits_27 rfl (by decide) ?_
      cases hq2
      exact jv_forget [false, false, true] kq2
    · rw [if_neg c3] at hq2
      refine jv_iconst (v := (1 : Int32)) (pc' := 24) hE dX5_fits_23 rfl (by decide) ?_
      refine jv_goto (tgt := 28) hE dX5_fits_24 (by decide) ?_
      cases hq2
      exact jv_forget [false, false, true] kq2
noncomputable def f_X5_keep_lp28 (a1 : Int64) : Nat → Int32 → jv_S → Option (Int32 × jv_S)
  | 0, _, _ => none
  | n + 1, v3, σ => if v3 ≤ 0 then (some (v3, σ)) else (if (lg_cmp (jv_rd (σ.2 11) 16 0 (v3 - (1 : Int32))) a1) ≤ 0 then (some (v3, σ)) else (f_X5_keep_lp28 a1 n (v3 + (-1 : Int32)) (jv_wrl σ 11 16 v3 (jv_rd (σ.2 11) 16 0 (v3 - (1 : Int32))))))
noncomputable def f_X5_keep (σ : jv_S) (p1 : Int64) : Option (jv_S) := if (lg_cmp p1 (σ.2 10 8)) ≤ 0 then (some σ) else (if (f_X5_fits σ p1) = true then (jv_bd (f_X5_keep_lp28 p1 jv_fuel (jv_min (σ.1 10 3) (15 : Int32)) σ) (fun q5 => some (jv_si (jv_wrl q5.2 11 16 q5.1 p1) 10 3 (jv_min (((jv_wrl q5.2 11 16 q5.1 p1).1 10 3) + (1 : Int32)) (16 : Int32))))) else (some σ))
set_option maxRecDepth 100000 in
set_option maxHeartbeats 4000000 in
theorem lp_X5_keep_28 {a1 : Int64} {E : jv_E} (hE : jv_Cx E RX5 cX5_keep 4 3) : ∀ (n : Nat) (v3 : Int32) (σ : jv_S) (q : Int32 × jv_S), f_X5_keep_lp28 a1 n v3 σ = some q → (jv_V E 71 [some (.ref 10), some (.long a1), none, some (.int q.1)] [] q.2) → jv_V E 28 [some (.ref 10), some (.long a1), none, some (.int v3)] [] σ := by
  intro n
  induction n with
  | zero =>
    intro v3 σ q h
    rw [f_X5_keep_lp28] at h
    cases h
  | succ n ih =>
    intro v3 σ q h hk
    rw [f_X5_keep_lp28] at h
    refine jv_iload_n (x := v3) (pc' := 29) hE dX5_keep_28 rfl 3 rfl rfl ?_
    refine jv_if_le (x := v3) (tgt := 71) (pc' := 32) hE dX5_keep_29 (by decide) rfl (fun c3 => ?_) (fun c3 => ?_)
    · rw [if_pos c3] at h
      cases h
      exact jv_forget [true, true, true, true] hk
    · rw [if_neg c3] at h
      refine jv_aload_n (x := 10) (pc' := 33) hE dX5_keep_32 rfl 0 rfl rfl ?_
      refine jv_get (v := .ref 11) (pc' := 36) hE dX5_keep_33 rfl lF_X5_11 rfl rfl rfl ?_
      refine jv_iload_n (x := v3) (pc' := 37) hE dX5_keep_36 rfl 3 rfl rfl ?_
      refine jv_iconst (v := (1 : Int32)) (pc' := 38) hE dX5_keep_37 rfl (by decide) ?_
      refine jv_isub (x := v3) (y := (1 : Int32)) (pc' := 39) hE dX5_keep_38 rfl ?_
      refine jv_callN (pc' := 42) (o := some (.long (jv_rd (σ.2 11) 16 0 (v3 - (1 : Int32))))) (σ' := σ) hE dX5_keep_39 rfl lN_X5_51 (ok_X7_at_ (n := 16) (by decide) rfl rfl) rfl (by decide) rfl (Nat.le_of_ble_eq_true rfl) ?_
      show jv_V E 42 [some (.ref 10), some (.long a1), none, some (.int v3)] [.long (jv_rd (σ.2 11) 16 0 (v3 - (1 : Int32)))] σ
      refine jv_lload_n (x := a1) (pc' := 43) hE dX5_keep_42 rfl 1 rfl rfl ?_
      refine jv_lcmp (x := (jv_rd (σ.2 11) 16 0 (v3 - (1 : Int32)))) (y := a1) (pc' := 44) hE dX5_keep_43 rfl ?_
      refine jv_if_le (x := (lg_cmp (jv_rd (σ.2 11) 16 0 (v3 - (1 : Int32))) a1)) (tgt := 71) (pc' := 47) hE dX5_keep_44 (by decide) rfl (fun c4 => ?_) (fun c4 => ?_)
      · rw [if_pos c4] at h
        cases h
        exact jv_forget [true, true, true, true] hk
      · rw [if_neg c4] at h
        refine jv_aload_n (x := 10) (pc' := 48) hE dX5_keep_47 rfl 0 rfl rfl ?_
        refine jv_get (v := .ref 11) (pc' := 51) hE dX5_keep_48 rfl lF_X5_11 rfl rfl rfl ?_
        refine jv_iload_n (x := v3) (pc' := 52) hE dX5_keep_51 rfl 3 rfl rfl ?_
        refine jv_aload_n (x := 10) (pc' := 53) hE dX5_keep_52 rfl 0 rfl rfl ?_
        refine jv_get (v := .ref 11) (pc' := 56) hE dX5_keep_53 rfl lF_X5_11 rfl rfl rfl ?_
        refine jv_iload_n (x := v3) (pc' := 57) hE dX5_keep_56 rfl 3 rfl rfl ?_
        refine jv_iconst (v := (1 : Int32)) (pc' := 58) hE dX5_keep_57 rfl (by decide) ?_
        refine jv_isub (x := v3) (y := (1 : Int32)) (pc' := 59) hE dX5_keep_58 rfl ?_
        refine jv_callN (pc' := 62) (o := some (.long (jv_rd (σ.2 11) 16 0 (v3 - (1 : Int32))))) (σ' := σ) hE dX5_keep_59 rfl lN_X5_51 (ok_X7_at_ (n := 16) (by decide) rfl rfl) rfl (by decide) rfl (Nat.le_of_ble_eq_true rfl) ?_
        show jv_V E 62 [some (.ref 10), some (.long a1), none, some (.int v3)] [.long (jv_rd (σ.2 11) 16 0 (v3 - (1 : Int32))), .int v3, .ref 11] σ
        refine jv_callN (pc' := 65) (o := none) (σ' := (jv_wrl σ 11 16 v3 (jv_rd (σ.2 11) 16 0 (v3 - (1 : Int32))))) hE dX5_keep_62 rfl lN_X5_114 (ok_X7_put_ (n := 16) (by decide) rfl rfl) rfl (by decide) rfl (Nat.le_of_ble_eq_true rfl) ?_
        show jv_V E 65 [some (.ref 10), some (.long a1), none, some (.int v3)] [] (jv_wrl σ 11 16 v3 (jv_rd (σ.2 11) 16 0 (v3 - (1 : Int32))))
        refine jv_iinc (x := v3) (v := (v3 + (-1 : Int32))) (L' := [some (.ref 10), some (.long a1), none, some (.int (v3 + (-1 : Int32)))]) (pc' := 68) hE dX5_keep_65 rfl rfl rfl (by decide) rfl rfl ?_
        refine jv_goto (tgt := 28) hE dX5_keep_68 (by decide) ?_
        exact jv_forget [true, true, true, true] (ih (v3 + (-1 : Int32)) (jv_wrl σ 11 16 v3 (jv_rd (σ.2 11) 16 0 (v3 - (1 : Int32)))) _ h hk)
set_option maxRecDepth 100000 in
set_option maxHeartbeats 4000000 in
theorem ok_X5_keep {G : jv_G} {l : Launch} {σ : jv_S} {p1 : Int64} {r : jv_S} (h : f_X5_keep σ p1 = some r) : jv_Cn G l 3 M_X5_keep [.ref 10, .long p1] σ (none) r := by
  refine jv_of (L0 := [some (.ref 10), some (.long p1), none, none]) (by decide +kernel) (Nat.le_of_ble_eq_true rfl) rfl jv_okV (fun E e1 e2 hE hret => ?_)
  unfold f_X5_keep at h
  refine jv_lload_n (x := p1) (pc' := 1) hE dX5_keep_0 rfl 1 rfl rfl ?_
  refine jv_aload_n (x := 10) (pc' := 2) hE dX5_keep_1 rfl 0 rfl rfl ?_
  refine jv_get (v := .long (σ.2 10 8)) (pc' := 5) hE dX5_keep_2 rfl lF_X5_38 rfl rfl rfl ?_
  refine jv_lcmp (x := p1) (y := (σ.2 10 8)) (pc' := 6) hE dX5_keep_5 rfl ?_
  refine jv_if_le (x := (lg_cmp p1 (σ.2 10 8))) (tgt := 17) (pc' := 9) hE dX5_keep_6 (by decide) rfl (fun c1 => ?_) (fun c1 => ?_)
  · rw [if_pos c1] at h
    cases h
    exact hret _ _ dX5_keep_17
  · rw [if_neg c1] at h
    refine jv_aload_n (x := 10) (pc' := 10) hE dX5_keep_9 rfl 0 rfl rfl ?_
    refine jv_lload_n (x := p1) (pc' := 11) hE dX5_keep_10 rfl 1 rfl rfl ?_
    refine jv_callV (pc' := 14) (o := some (.int (jv_b (f_X5_fits σ p1)))) (σ' := σ) hE dX5_keep_11 rfl lV_X5_104 (ok_X5_fits rfl) rfl rfl rfl (by decide) rfl (Nat.le_of_ble_eq_true rfl) ?_
    show jv_V E 14 [some (.ref 10), some (.long p1), none, none] [.int (jv_b (f_X5_fits σ p1))] σ
    refine jv_if_ne (x := (jv_b (f_X5_fits σ p1))) (tgt := 18) (pc' := 17) hE dX5_keep_14 (by decide) rfl (fun c2 => ?_) (fun c2 => ?_)
    · have c2 := jv_b1 c2
      rw [if_pos c2] at h
      refine jv_aload_n (x := 10) (pc' := 19) hE dX5_keep_18 rfl 0 rfl rfl ?_
      refine jv_get (v := .int (σ.1 10 3)) (pc' := 22) hE dX5_keep_19 rfl lF_X5_42 rfl rfl rfl ?_
      refine jv_bipush (v := (15 : Int32)) (pc' := 24) hE dX5_keep_22 rfl (by decide) ?_
      refine jv_callMin (pc' := 27) hE dX5_keep_24 rfl lS_X5_108 (Nat.le_of_ble_eq_true rfl) ?_
      refine jv_istore_n (x := (jv_min (σ.1 10 3) (15 : Int32))) (L' := [some (.ref 10), some (.long p1), none, some (.int (jv_min (σ.1 10 3) (15 : Int32)))]) (pc' := 28) hE dX5_keep_27 rfl 3 rfl (by decide) rfl rfl ?_
      obtain ⟨q5, hq5, h⟩ := jv_bd_some h
      refine jv_forget [true, true, true, true] (lp_X5_keep_28 hE jv_fuel (jv_min (σ.1 10 3) (15 : Int32)) σ _ hq5 ?_)
      refine jv_aload_n (x := 10) (pc' := 72) hE dX5_keep_71 rfl 0 rfl rfl ?_
      refine jv_get (v := .ref 11) (pc' := 75) hE dX5_keep_72 rfl lF_X5_11 rfl rfl rfl ?_
      refine jv_iload_n (x := q5.1) (pc' := 76) hE dX5_keep_75 rfl 3 rfl rfl ?_
      refine jv_lload_n (x := p1) (pc' := 77) hE dX5_keep_76 rfl 1 rfl rfl ?_
      refine jv_callN (pc' := 80) (o := none) (σ' := (jv_wrl q5.2 11 16 q5.1 p1)) hE dX5_keep_77 rfl lN_X5_114 (ok_X7_put_ (n := 16) (by decide) rfl rfl) rfl (by decide) rfl (Nat.le_of_ble_eq_true rfl) ?_
      show jv_V E 80 [some (.ref 10), some (.long p1), none, some (.int q5.1)] [] (jv_wrl q5.2 11 16 q5.1 p1)
      refine jv_aload_n (x := 10) (pc' := 81) hE dX5_keep_80 rfl 0 rfl rfl ?_
      refine jv_aload_n (x := 10) (pc' := 82) hE dX5_keep_81 rfl 0 rfl rfl ?_
      refine jv_get (v := .int ((jv_wrl q5.2 11 16 q5.1 p1).1 10 3)) (pc' := 85) hE dX5_keep_82 rfl lF_X5_42 rfl rfl rfl ?_
      refine jv_iconst (v := (1 : Int32)) (pc' := 86) hE dX5_keep_85 rfl (by decide) ?_
      refine jv_iadd (x := ((jv_wrl q5.2 11 16 q5.1 p1).1 10 3)) (y := (1 : Int32)) (pc' := 87) hE dX5_keep_86 rfl ?_
      refine jv_bipush (v := (16 : Int32)) (pc' := 89) hE dX5_keep_87 rfl (by decide) ?_
      refine jv_callMin (pc' := 92) hE dX5_keep_89 rfl lS_X5_108 (Nat.le_of_ble_eq_true rfl) ?_
      refine jv_puti (x := (jv_min (((jv_wrl q5.2 11 16 q5.1 p1).1 10 3) + (1 : Int32)) (16 : Int32))) (pc' := 95) hE dX5_keep_92 rfl lP_X5_42 rfl rfl rfl rfl ?_
      cases h
      exact hret _ _ dX5_keep_95
    · have c2 := jv_b0 c2
      rw [if_neg c2] at h
      cases h
      exact hret _ _ dX5_keep_17
noncomputable def f_X5_leadsOn (σ : jv_S) (p1 : Int32) (p2 : Int64) : Bool := jv_lt (if (1000000000 : Int32) ≤ (f_X2_ofNode 13 σ p1) then (false) else (if (f_X5_fits σ (p2 + (f_X5_ofLength σ (f_X2_ofNode 13 σ p1)))) = true then (true) else (false))) (fun q2 => q2)
set_option maxRecDepth 100000 in
set_option maxHeartbeats 4000000 in
theorem ok_X5_leadsOn {G : jv_G} {l : Launch} {σ : jv_S} {p1 : Int32} {p2 : Int64} {r : Bool} (h : f_X5_leadsOn σ p1 p2 = r) : jv_Cn G l 3 M_X5_leadsOn [.ref 10, .int p1, .long p2] σ (some (.int (jv_b r))) σ := by
  refine jv_of (L0 := [some (.ref 10), some (.int p1), some (.long p2), none, none]) (by decide +kernel) (Nat.le_of_ble_eq_true rfl) rfl (jv_okZ _) (fun E e1 e2 hE hret => ?_)
  unfold f_X5_leadsOn at h
  refine jv_aload_n (x := 10) (pc' := 1) hE dX5_leadsOn_0 rfl 0 rfl rfl ?_
  refine jv_get (v := .ref 12) (pc' := 4) hE dX5_leadsOn_1 rfl lF_X5_24 rfl rfl rfl ?_
  refine jv_iload_n (x := p1) (pc' := 5) hE dX5_leadsOn_4 rfl 1 rfl rfl ?_
  refine jv_callV (pc' := 8) (o := some (.int (f_X2_ofNode 13 σ p1))) (σ' := σ) hE dX5_leadsOn_5 rfl lV_X5_100 (ok_X2_ofNode_12 rfl) rfl rfl rfl (by decide) rfl (Nat.le_of_ble_eq_true rfl) ?_
  show jv_V E 8 [some (.ref 10), some (.int p1), some (.long p2), none, none] [.int (f_X2_ofNode 13 σ p1)] σ
  refine jv_istore (x := (f_X2_ofNode 13 σ p1)) (L' := [some (.ref 10), some (.int p1), some (.long p2), none, some (.int (f_X2_ofNode 13 σ p1))]) (pc' := 10) hE dX5_leadsOn_8 rfl (by decide) rfl rfl ?_
  refine jv_iload (x := (f_X2_ofNode 13 σ p1)) (pc' := 12) hE dX5_leadsOn_10 rfl rfl ?_
  refine jv_ldc (v := (1000000000 : Int32)) (pc' := 14) hE dX5_leadsOn_12 rfl lC_X5_103 ?_
  obtain ⟨q2, hq2, h⟩ := jv_lt_eq h
  have kq2 : jv_V E 36 [none, none, none, none, none] [.int (jv_b q2)] σ := by
    cases h
    exact hret _ _ dX5_leadsOn_36
  refine jv_icmp_ge (x := (f_X2_ofNode 13 σ p1)) (y := (1000000000 : Int32)) (tgt := 35) (pc' := 17) hE dX5_leadsOn_14 (by decide) rfl (fun c1 => ?_) (fun c1 => ?_)
  · rw [if_pos c1] at hq2
    refine jv_iconst (v := (0 : Int32)) (pc' := 36) hE dX5_leadsOn_35 rfl (by decide) ?_
    cases hq2
    exact jv_forget [false, false, false, true, false] kq2
  · rw [if_neg c1] at hq2
    refine jv_aload_n (x := 10) (pc' := 18) hE dX5_leadsOn_17 rfl 0 rfl rfl ?_
    refine jv_lload_n (x := p2) (pc' := 19) hE dX5_leadsOn_18 rfl 2 rfl rfl ?_
    refine jv_iload (x := (f_X2_ofNode 13 σ p1)) (pc' := 21) hE dX5_leadsOn_19 rfl rfl ?_
    refine jv_callS (pc' := 24) (o := some (.long (f_X5_ofLength σ (f_X2_ofNode 13 σ p1)))) (σ' := σ) hE dX5_leadsOn_21 rfl lS_X5_81 (ok_X5_ofLength rfl) rfl (by decide) rfl (Nat.le_of_ble_eq_true rfl) ?_
    show jv_V E 24 [some (.ref 10), some (.int p1), some (.long p2), none, some (.int (f_X2_ofNode 13 σ p1))] [.long (f_X5_ofLength σ (f_X2_ofNode 13 σ p1)), .long p2, .ref 10] σ
    refine jv_ladd (x := p2) (y := (f_X5_ofLength σ (f_X2_ofNode 13 σ p1))) (pc' := 25) hE dX5_leadsOn_24 rfl ?_
    refine jv_callV (pc' := 28) (o := some (.int (jv_b (f_X5_fits σ (p2 + (f_X5_ofLength σ (f_X2_ofNode 13 σ p1))))))) (σ' := σ) hE dX5_leadsOn_25 rfl lV_X5_104 (ok_X5_fits rfl) rfl rfl rfl (by decide) rfl (Nat.le_of_ble_eq_true rfl) ?_
    show jv_V E 28 [some (.ref 10), some (.int p1), some (.long p2), none, some (.int (f_X2_ofNode 13 σ p1))] [.int (jv_b (f_X5_fits σ (p2 + (f_X5_ofLength σ (f_X2_ofNode 13 σ p1)))))] σ
    refine jv_if_eq (x := (jv_b (f_X5_fits σ (p2 + (f_X5_ofLength σ (f_X2_ofNode 13 σ p1)))))) (tgt := 35) (pc' := 31) hE dX5_leadsOn_28 (by decide) rfl (fun c3 => ?_) (fun c3 => ?_)
    · have c3 := jv_b0 c3
      rw [if_neg c3] at hq2
      refine jv_iconst (v := (0 : Int32)) (pc' := 36) hE dX5_leadsOn_35 rfl (by decide) ?_
      cases hq2
      exact jv_forget [false, false, false, true, false] kq2
    · have c3 := jv_b1 c3
      rw [if_pos c3] at hq2
      refine jv_iconst (v := (1 : Int32)) (pc' := 32) hE dX5_leadsOn_31 rfl (by decide) ?_
      refine jv_goto (tgt := 36) hE dX5_leadsOn_32 (by decide) ?_
      cases hq2
      exact jv_forget [false, false, false, true, false] kq2
noncomputable def f_X5_explore_lp22 (rec : jv_S → Int32 → Int32 → Int64 → Int32 → Option (jv_S)) (a1 : Int32) (a2 : Int32) (a3 : Int64) (a5 : Int32) : Nat → Int32 → jv_S → Option (Int32 × jv_S)
  | 0, _, _ => none
  | n + 1, v7, σ => if (f_X3_outEnd σ a1) ≤ v7 then (some (v7, σ)) else (jv_bd (if (f_X3_headOf σ (f_X3_outEdge σ v7)) = (σ.1 10 6) then (jv_bd (f_X5_keep σ ((a3 + (f_X5_ofLength σ (f_X3_lengthOf σ (f_X3_outEdge σ v7)))) + (((f_X3_outEdge σ v7).toInt64 + (1 : Int64)) <<< ((f_X5_slotShift σ a5).toInt64 &&& 63)))) (fun q8 => some q8)) else (if (f_X7_hasBit σ a2 (f_X3_headOf σ (f_X3_outEdge σ v7))) = true then (some σ) else (if (f_X5_leadsOn σ (f_X3_headOf σ (f_X3_outEdge σ v7)) ((a3 + (f_X5_ofLength σ (f_X3_lengthOf σ (f_X3_outEdge σ v7)))) + (((f_X3_outEdge σ v7).toInt64 + (1 : Int64)) <<< ((f_X5_slotShift σ a5).toInt64 &&& 63)))) = true then (jv_bd (rec σ (f_X3_headOf σ (f_X3_outEdge σ v7)) (a2 ||| ((1 : Int32) <<< ((f_X3_headOf σ (f_X3_outEdge σ v7)) &&& 31))) ((a3 + (f_X5_ofLength σ (f_X3_lengthOf σ (f_X3_outEdge σ v7)))) + (((f_X3_outEdge σ v7).toInt64 + (1 : Int64)) <<< ((f_X5_slotShift σ a5).toInt64 &&& 63))) (a5 + (1 : Int32))) (fun q7 => some q7)) else (some σ)))) (fun q4 => f_X5_explore_lp22 rec a1 a2 a3 a5 n (v7 + (1 : Int32)) q4))
noncomputable def f_X5_explore : Nat → jv_S → Int32 → Int32 → Int64 → Int32 → Option (jv_S)
  | 0, _, _, _, _, _ => none
  | n + 1, σ, p2, p3, p4, p5 => (fun (rec : jv_S → Int32 → Int32 → Int64 → Int32 → Option (jv_S)) => if p5 < (9 : Int32) then (jv_bd (f_X5_explore_lp22 rec p2 p3 p4 p5 jv_fuel (f_X3_outStart σ p2) σ) (fun q9 => some q9.2)) else (some σ)) (f_X5_explore n)
set_option maxRecDepth 100000 in
set_option maxHeartbeats 4000000 in
theorem lp_X5_explore_22 {m : Nat} {rec : jv_S → Int32 → Int32 → Int64 → Int32 → Option (jv_S)} {a1 : Int32} {a2 : Int32} {a3 : Int64} {a5 : Int32} {E : jv_E} (hE : jv_Cx E RX5 cX5_explore 12 (4 + m + 1)) (hrec : ∀ {σ : jv_S} {p2 : Int32} {p3 : Int32} {p4 : Int64} {p5 : Int32} {q : jv_S}, rec σ p2 p3 p4 p5 = some q → jv_Cn (jv_g E) (jv_l E) (4 + m) M_X5_explore [.ref 10, .int p2, .int p3, .long p4, .int p5] σ (none) q) : ∀ (n : Nat) (v7 : Int32) (σ : jv_S) (q : Int32 × jv_S), f_X5_explore_lp22 rec a1 a2 a3 a5 n v7 σ = some q → (jv_V E 139 [none, none, none, none, none, none, none, none, none, none, none, none] [] q.2) → jv_V E 22 [some (.ref 10), some (.int a1), some (.int a2), some (.long a3), none, some (.int a5), some (.ref 1), some (.int v7), none, none, none, none] [] σ := by
  intro n
  induction n with
  | zero =>
    intro v7 σ q h
    rw [f_X5_explore_lp22] at h
    cases h
  | succ n ih =>
    intro v7 σ q h hk
    rw [f_X5_explore_lp22] at h
    refine jv_iload (x := v7) (pc' := 24) hE dX5_explore_22 rfl rfl ?_
    refine jv_aload (x := 1) (pc' := 26) hE dX5_explore_24 rfl rfl ?_
    refine jv_iload_n (x := a1) (pc' := 27) hE dX5_explore_26 rfl 1 rfl rfl ?_
    refine jv_callV (pc' := 30) (o := some (.int (f_X3_outEnd σ a1))) (σ' := σ) hE dX5_explore_27 rfl lV_X5_69 (ok_X3_outEnd rfl) rfl rfl rfl (by omega) rfl (Nat.le_of_ble_eq_true rfl) ?_
    show jv_V E 30 [some (.ref 10), some (.int a1), some (.int a2), some (.long a3), none, some (.int a5), some (.ref 1), some (.int v7), none, none, none, none] [.int (f_X3_outEnd σ a1), .int v7] σ
    refine jv_icmp_ge (x := v7) (y := (f_X3_outEnd σ a1)) (tgt := 139) (pc' := 33) hE dX5_explore_30 (by decide) rfl (fun c2 => ?_) (fun c2 => ?_)
    · rw [if_pos c2] at h
      cases h
      exact jv_forget [false, false, false, false, true, false, false, false, true, true, true, true] hk
    · rw [if_neg c2] at h
      refine jv_aload (x := 1) (pc' := 35) hE dX5_explore_33 rfl rfl ?_
      refine jv_iload (x := v7) (pc' := 37) hE dX5_explore_35 rfl rfl ?_
      refine jv_callV (pc' := 40) (o := some (.int (f_X3_outEdge σ v7))) (σ' := σ) hE dX5_explore_37 rfl lV_X5_72 (ok_X3_outEdge rfl) rfl rfl rfl (by omega) rfl (Nat.le_of_ble_eq_true rfl) ?_
      show jv_V E 40 [some (.ref 10), some (.int a1), some (.int a2), some (.long a3), none, some (.int a5), some (.ref 1), some (.int v7), none, none, none, none] [.int (f_X3_outEdge σ v7)] σ
      refine jv_istore (x := (f_X3_outEdge σ v7)) (L' := [some (.ref 10), some (.int a1), some (.int a2), some (.long a3), none, some (.int a5), some (.ref 1), some (.int v7), some (.int (f_X3_outEdge σ v7)), none, none, none]) (pc' := 42) hE dX5_explore_40 rfl (by decide) rfl rfl ?_
      refine jv_aload (x := 1) (pc' := 44) hE dX5_explore_42 rfl rfl ?_
      refine jv_iload (x := (f_X3_outEdge σ v7)) (pc' := 46) hE dX5_explore_44 rfl rfl ?_
      refine jv_callV (pc' := 49) (o := some (.int (f_X3_headOf σ (f_X3_outEdge σ v7)))) (σ' := σ) hE dX5_explore_46 rfl lV_X5_75 (ok_X3_headOf rfl) rfl rfl rfl (by omega) rfl (Nat.le_of_ble_eq_true rfl) ?_
      show jv_V E 49 [some (.ref 10), some (.int a1), some (.int a2), some (.long a3), none, some (.int a5), some (.ref 1), some (.int v7), some (.int (f_X3_outEdge σ v7)), none, none, none] [.int (f_X3_headOf σ (f_X3_outEdge σ v7))] σ
      refine jv_istore (x := (f_X3_headOf σ (f_X3_outEdge σ v7))) (L' := [some (.ref 10), some (.int a1), some (.int a2), some (.long a3), none, some (.int a5), some (.ref 1), some (.int v7), some (.int (f_X3_outEdge σ v7)), some (.int (f_X3_headOf σ (f_X3_outEdge σ v7))), none, none]) (pc' := 51) hE dX5_explore_49 rfl (by decide) rfl rfl ?_
      refine jv_lload_n (x := a3) (pc' := 52) hE dX5_explore_51 rfl 3 rfl rfl ?_
      refine jv_aload (x := 1) (pc' := 54) hE dX5_explore_52 rfl rfl ?_
      refine jv_iload (x := (f_X3_outEdge σ v7)) (pc' := 56) hE dX5_explore_54 rfl rfl ?_
      refine jv_callV (pc' := 59) (o := some (.int (f_X3_lengthOf σ (f_X3_outEdge σ v7)))) (σ' := σ) hE dX5_explore_56 rfl lV_X5_78 (ok_X3_lengthOf rfl) rfl rfl rfl (by omega) rfl (Nat.le_of_ble_eq_true rfl) ?_
      show jv_V E 59 [some (.ref 10), some (.int a1), some (.int a2), some (.long a3), none, some (.int a5), some (.ref 1), some (.int v7), some (.int (f_X3_outEdge σ v7)), some (.int (f_X3_headOf σ (f_X3_outEdge σ v7))), none, none] [.int (f_X3_lengthOf σ (f_X3_outEdge σ v7)), .long a3] σ
      refine jv_callS (pc' := 62) (o := some (.long (f_X5_ofLength σ (f_X3_lengthOf σ (f_X3_outEdge σ v7))))) (σ' := σ) hE dX5_explore_59 rfl lS_X5_81 (ok_X5_ofLength rfl) rfl (by omega) rfl (Nat.le_of_ble_eq_true rfl) ?_
      show jv_V E 62 [some (.ref 10), some (.int a1), some (.int a2), some (.long a3), none, some (.int a5), some (.ref 1), some (.int v7), some (.int (f_X3_outEdge σ v7)), some (.int (f_X3_headOf σ (f_X3_outEdge σ v7))), none, none] [.long (f_X5_ofLength σ (f_X3_lengthOf σ (f_X3_outEdge σ v7))), .long a3] σ
      refine jv_ladd (x := a3) (y := (f_X5_ofLength σ (f_X3_lengthOf σ (f_X3_outEdge σ v7)))) (pc' := 63) hE dX5_explore_62 rfl ?_
      refine jv_iload (x := (f_X3_outEdge σ v7)) (pc' := 65) hE dX5_explore_63 rfl rfl ?_
      refine jv_i2l (x := (f_X3_outEdge σ v7)) (pc' := 66) hE dX5_explore_65 rfl ?_
      refine jv_lconst (v := (1 : Int64)) (pc' := 67) hE dX5_explore_66 rfl (by decide) ?_
      refine jv_ladd (x := (f_X3_outEdge σ v7).toInt64) (y := (1 : Int64)) (pc' := 68) hE dX5_explore_67 rfl ?_
      refine jv_iload (x := a5) (pc' := 70) hE dX5_explore_68 rfl rfl ?_
      refine jv_callS (pc' := 73) (o := some (.int (f_X5_slotShift σ a5))) (σ' := σ) hE dX5_explore_70 rfl lS_X5_85 (ok_X5_slotShift rfl) rfl (by omega) rfl (Nat.le_of_ble_eq_true rfl) ?_
      show jv_V E 73 [some (.ref 10), some (.int a1), some (.int a2), some (.long a3), none, some (.int a5), some (.ref 1), some (.int v7), some (.int (f_X3_outEdge σ v7)), some (.int (f_X3_headOf σ (f_X3_outEdge σ v7))), none, none] [.int (f_X5_slotShift σ a5), .long ((f_X3_outEdge σ v7).toInt64 + (1 : Int64)), .long (a3 + (f_X5_ofLength σ (f_X3_lengthOf σ (f_X3_outEdge σ v7))))] σ
      refine jv_lshl (x := ((f_X3_outEdge σ v7).toInt64 + (1 : Int64))) (y := (f_X5_slotShift σ a5)) (pc' := 74) hE dX5_explore_73 rfl ?_
      refine jv_ladd (x := (a3 + (f_X5_ofLength σ (f_X3_lengthOf σ (f_X3_outEdge σ v7))))) (y := (((f_X3_outEdge σ v7).toInt64 + (1 : Int64)) <<< ((f_X5_slotShift σ a5).toInt64 &&& 63))) (pc' := 75) hE dX5_explore_74 rfl ?_
      refine jv_lstore (x := ((a3 + (f_X5_ofLength σ (f_X3_lengthOf σ (f_X3_outEdge σ v7)))) + (((f_X3_outEdge σ v7).toInt64 + (1 : Int64)) <<< ((f_X5_slotShift σ a5).toInt64 &&& 63)))) (L' := [some (.ref 10), some (.int a1), some (.int a2), some (.long a3), none, some (.int a5), some (.ref 1), some (.int v7), some (.int (f_X3_outEdge σ v7)), some (.int (f_X3_headOf σ (f_X3_outEdge σ v7))), some (.long ((a3 + (f_X5_ofLength σ (f_X3_lengthOf σ (f_X3_outEdge σ v7)))) + (((f_X3_outEdge σ v7).toInt64 + (1 : Int64)) <<< ((f_X5_slotShift σ a5).toInt64 &&& 63)))), none]) (pc' := 77) hE dX5_explore_75 rfl (by decide) rfl rfl ?_
      refine jv_iload (x := (f_X3_headOf σ (f_X3_outEdge σ v7))) (pc' := 79) hE dX5_explore_77 rfl rfl ?_
      refine jv_aload_n (x := 10) (pc' := 80) hE dX5_explore_79 rfl 0 rfl rfl ?_
      refine jv_get (v := .int (σ.1 10 6)) (pc' := 83) hE dX5_explore_80 rfl lF_X5_32 rfl rfl rfl ?_
      obtain ⟨q4, hq4, h⟩ := jv_bd_some h
      have kq4 : jv_V E 133 [some (.ref 10), some (.int a1), some (.int a2), some (.long a3), none, some (.int a5), some (.ref 1), some (.int v7), none, none, none, none] [] q4 := by
        refine jv_iinc (x := v7) (v := (v7 + (1 : Int32))) (L' := [some (.ref 10), some (.int a1), some (.int a2), some (.long a3), none, some (.int a5), some (.ref 1), some (.int (v7 + (1 : Int32))), none, none, none, none]) (pc' := 136) hE dX5_explore_133 rfl rfl rfl (by decide) rfl rfl ?_
        refine jv_goto (tgt := 22) hE dX5_explore_136 (by decide) ?_
        exact jv_forget [true, true, true, true, true, true, true, true, true, true, true, true] (ih (v7 + (1 : Int32)) q4 _ h hk)
      refine jv_icmp_ne (x := (f_X3_headOf σ (f_X3_outEdge σ v7))) (y := (σ.1 10 6)) (tgt := 95) (pc' := 86) hE dX5_explore_83 (by decide) rfl (fun c3 => ?_) (fun c3 => ?_)
      · rw [if_neg c3] at hq4
        refine jv_iload_n (x := a2) (pc' := 96) hE dX5_explore_95 rfl 2 rfl rfl ?_
        refine jv_iload (x := (f_X3_headOf σ (f_X3_outEdge σ v7))) (pc' := 98) hE dX5_explore_96 rfl rfl ?_
        refine jv_callN (pc' := 101) (o := some (.int (jv_b (f_X7_hasBit σ a2 (f_X3_headOf σ (f_X3_outEdge σ v7)))))) (σ' := σ) hE dX5_explore_98 rfl lN_X5_92 (ok_X7_hasBit rfl) rfl (by omega) rfl (Nat.le_of_ble_eq_true rfl) ?_
        show jv_V E 101 [some (.ref 10), some (.int a1), some (.int a2), some (.long a3), none, some (.int a5), some (.ref 1), some (.int v7), some (.int (f_X3_outEdge σ v7)), some (.int (f_X3_headOf σ (f_X3_outEdge σ v7))), some (.long ((a3 + (f_X5_ofLength σ (f_X3_lengthOf σ (f_X3_outEdge σ v7)))) + (((f_X3_outEdge σ v7).toInt64 + (1 : Int64)) <<< ((f_X5_slotShift σ a5).toInt64 &&& 63)))), none] [.int (jv_b (f_X7_hasBit σ a2 (f_X3_headOf σ (f_X3_outEdge σ v7))))] σ
        refine jv_if_ne (x := (jv_b (f_X7_hasBit σ a2 (f_X3_headOf σ (f_X3_outEdge σ v7))))) (tgt := 133) (pc' := 104) hE dX5_explore_101 (by decide) rfl (fun c5 => ?_) (fun c5 => ?_)
        · have c5 := jv_b1 c5
          rw [if_pos c5] at hq4
          cases hq4
          exact jv_forget [true, true, true, true, true, true, true, true, false, false, false, true] kq4
        · have c5 := jv_b0 c5
          rw [if_neg c5] at hq4
          refine jv_aload_n (x := 10) (pc' := 105) hE dX5_explore_104 rfl 0 rfl rfl ?_
          refine jv_iload (x := (f_X3_headOf σ (f_X3_outEdge σ v7))) (pc' := 107) hE dX5_explore_105 rfl rfl ?_
          refine jv_lload (x := ((a3 + (f_X5_ofLength σ (f_X3_lengthOf σ (f_X3_outEdge σ v7)))) + (((f_X3_outEdge σ v7).toInt64 + (1 : Int64)) <<< ((f_X5_slotShift σ a5).toInt64 &&& 63)))) (pc' := 109) hE dX5_explore_107 rfl rfl ?_
          refine jv_callV (pc' := 112) (o := some (.int (jv_b (f_X5_leadsOn σ (f_X3_headOf σ (f_X3_outEdge σ v7)) ((a3 + (f_X5_ofLength σ (f_X3_lengthOf σ (f_X3_outEdge σ v7)))) + (((f_X3_outEdge σ v7).toInt64 + (1 : Int64)) <<< ((f_X5_slotShift σ a5).toInt64 &&& 63))))))) (σ' := σ) hE dX5_explore_109 rfl lV_X5_96 (ok_X5_leadsOn rfl) rfl rfl rfl (by omega) rfl (Nat.le_of_ble_eq_true rfl) ?_
          show jv_V E 112 [some (.ref 10), some (.int a1), some (.int a2), some (.long a3), none, some (.int a5), some (.ref 1), some (.int v7), some (.int (f_X3_outEdge σ v7)), some (.int (f_X3_headOf σ (f_X3_outEdge σ v7))), some (.long ((a3 + (f_X5_ofLength σ (f_X3_lengthOf σ (f_X3_outEdge σ v7)))) + (((f_X3_outEdge σ v7).toInt64 + (1 : Int64)) <<< ((f_X5_slotShift σ a5).toInt64 &&& 63)))), none] [.int (jv_b (f_X5_leadsOn σ (f_X3_headOf σ (f_X3_outEdge σ v7)) ((a3 + (f_X5_ofLength σ (f_X3_lengthOf σ (f_X3_outEdge σ v7)))) + (((f_X3_outEdge σ v7).toInt64 + (1 : Int64)) <<< ((f_X5_slotShift σ a5).toInt64 &&& 63)))))] σ
          refine jv_if_eq (x := (jv_b (f_X5_leadsOn σ (f_X3_headOf σ (f_X3_outEdge σ v7)) ((a3 + (f_X5_ofLength σ (f_X3_lengthOf σ (f_X3_outEdge σ v7)))) + (((f_X3_outEdge σ v7).toInt64 + (1 : Int64)) <<< ((f_X5_slotShift σ a5).toInt64 &&& 63)))))) (tgt := 133) (pc' := 115) hE dX5_explore_112 (by decide) rfl (fun c6 => ?_) (fun c6 => ?_)
          · have c6 := jv_b0 c6
            rw [if_neg c6] at hq4
            cases hq4
            exact jv_forget [true, true, true, true, true, true, true, true, false, false, false, true] kq4
          · have c6 := jv_b1 c6
            rw [if_pos c6] at hq4
            refine jv_aload_n (x := 10) (pc' := 116) hE dX5_explore_115 rfl 0 rfl rfl ?_
            refine jv_iload (x := (f_X3_headOf σ (f_X3_outEdge σ v7))) (pc' := 118) hE dX5_explore_116 rfl rfl ?_
            refine jv_iload_n (x := a2) (pc' := 119) hE dX5_explore_118 rfl 2 rfl rfl ?_
            refine jv_iconst (v := (1 : Int32)) (pc' := 120) hE dX5_explore_119 rfl (by decide) ?_
            refine jv_iload (x := (f_X3_headOf σ (f_X3_outEdge σ v7))) (pc' := 122) hE dX5_explore_120 rfl rfl ?_
            refine jv_ishl (x := (1 : Int32)) (y := (f_X3_headOf σ (f_X3_outEdge σ v7))) (pc' := 123) hE dX5_explore_122 rfl ?_
            refine jv_ior (x := a2) (y := ((1 : Int32) <<< ((f_X3_headOf σ (f_X3_outEdge σ v7)) &&& 31))) (pc' := 124) hE dX5_explore_123 rfl ?_
            refine jv_lload (x := ((a3 + (f_X5_ofLength σ (f_X3_lengthOf σ (f_X3_outEdge σ v7)))) + (((f_X3_outEdge σ v7).toInt64 + (1 : Int64)) <<< ((f_X5_slotShift σ a5).toInt64 &&& 63)))) (pc' := 126) hE dX5_explore_124 rfl rfl ?_
            refine jv_iload (x := a5) (pc' := 128) hE dX5_explore_126 rfl rfl ?_
            refine jv_iconst (v := (1 : Int32)) (pc' := 129) hE dX5_explore_128 rfl (by decide) ?_
            refine jv_iadd (x := a5) (y := (1 : Int32)) (pc' := 130) hE dX5_explore_129 rfl ?_
            obtain ⟨q7, hq7, hq4⟩ := jv_bd_some hq4
            refine jv_callS (pc' := 133) (o := none) (σ' := q7) hE dX5_explore_130 rfl lS_X5_59 (hrec hq7) rfl (by omega) rfl (Nat.le_of_ble_eq_true rfl) ?_
            show jv_V E 133 [some (.ref 10), some (.int a1), some (.int a2), some (.long a3), none, some (.int a5), some (.ref 1), some (.int v7), some (.int (f_X3_outEdge σ v7)), some (.int (f_X3_headOf σ (f_X3_outEdge σ v7))), some (.long ((a3 + (f_X5_ofLength σ (f_X3_lengthOf σ (f_X3_outEdge σ v7)))) + (((f_X3_outEdge σ v7).toInt64 + (1 : Int64)) <<< ((f_X5_slotShift σ a5).toInt64 &&& 63)))), none] [] q7
            cases hq4
            exact jv_forget [true, true, true, true, true, true, true, true, false, false, false, true] kq4
      · rw [if_pos c3] at hq4
        refine jv_aload_n (x := 10) (pc' := 87) hE dX5_explore_86 rfl 0 rfl rfl ?_
        refine jv_lload (x := ((a3 + (f_X5_ofLength σ (f_X3_lengthOf σ (f_X3_outEdge σ v7)))) + (((f_X3_outEdge σ v7).toInt64 + (1 : Int64)) <<< ((f_X5_slotShift σ a5).toInt64 &&& 63)))) (pc' := 89) hE dX5_explore_87 rfl rfl ?_
        obtain ⟨q8, hq8, hq4⟩ := jv_bd_some hq4
        refine jv_callV (pc' := 92) (o := none) (σ' := q8) hE dX5_explore_89 rfl lV_X5_88 (ok_X5_keep hq8) rfl rfl rfl (by omega) rfl (Nat.le_of_ble_eq_true rfl) ?_
        show jv_V E 92 [some (.ref 10), some (.int a1), some (.int a2), some (.long a3), none, some (.int a5), some (.ref 1), some (.int v7), some (.int (f_X3_outEdge σ v7)), some (.int (f_X3_headOf σ (f_X3_outEdge σ v7))), some (.long ((a3 + (f_X5_ofLength σ (f_X3_lengthOf σ (f_X3_outEdge σ v7)))) + (((f_X3_outEdge σ v7).toInt64 + (1 : Int64)) <<< ((f_X5_slotShift σ a5).toInt64 &&& 63)))), none] [] q8
        refine jv_goto (tgt := 133) hE dX5_explore_92 (by decide) ?_
        cases hq4
        exact jv_forget [true, true, true, true, true, true, true, true, false, false, false, true] kq4
set_option maxRecDepth 100000 in
set_option maxHeartbeats 4000000 in
theorem ok_X5_explore_n {G : jv_G} {l : Launch} : ∀ (m : Nat) {σ : jv_S} {p2 : Int32} {p3 : Int32} {p4 : Int64} {p5 : Int32} {r : jv_S}, f_X5_explore m σ p2 p3 p4 p5 = some r → jv_Cn G l (4 + m) M_X5_explore [.ref 10, .int p2, .int p3, .long p4, .int p5] σ (none) r := by
  intro m
  induction m with
  | zero =>
    intro σ p2 p3 p4 p5 r h
    rw [f_X5_explore] at h
    cases h
  | succ m ih =>
    intro σ p2 p3 p4 p5 r h
    rw [f_X5_explore] at h
    refine jv_of (L0 := [some (.ref 10), some (.int p2), some (.int p3), some (.long p4), none, some (.int p5), none, none, none, none, none, none]) (by decide +kernel) (Nat.le_of_ble_eq_true rfl) rfl jv_okV (fun E e1 e2 hE hret => ?_)
    subst e1; subst e2
    generalize f_X5_explore m = rec at ih h
    have hrec := @ih
    dsimp only at h
    refine jv_iload (x := p5) (pc' := 2) hE dX5_explore_0 rfl rfl ?_
    refine jv_bipush (v := (9 : Int32)) (pc' := 4) hE dX5_explore_2 rfl (by decide) ?_
    refine jv_icmp_lt (x := p5) (y := (9 : Int32)) (tgt := 8) (pc' := 7) hE dX5_explore_4 (by decide) rfl (fun c1 => ?_) (fun c1 => ?_)
    · rw [if_pos c1] at h
      refine jv_aload_n (x := 10) (pc' := 9) hE dX5_explore_8 rfl 0 rfl rfl ?_
      refine jv_get (v := .ref 1) (pc' := 12) hE dX5_explore_9 rfl lF_X5_15 rfl rfl rfl ?_
      refine jv_astore (x := 1) (L' := [some (.ref 10), some (.int p2), some (.int p3), some (.long p4), none, some (.int p5), some (.ref 1), none, none, none, none, none]) (pc' := 14) hE dX5_explore_12 rfl (by decide) rfl rfl ?_
      refine jv_aload (x := 1) (pc' := 16) hE dX5_explore_14 rfl rfl ?_
      refine jv_iload_n (x := p2) (pc' := 17) hE dX5_explore_16 rfl 1 rfl rfl ?_
      refine jv_callV (pc' := 20) (o := some (.int (f_X3_outStart σ p2))) (σ' := σ) hE dX5_explore_17 rfl lV_X5_63 (ok_X3_outStart rfl) rfl rfl rfl (by omega) rfl (Nat.le_of_ble_eq_true rfl) ?_
      show jv_V E 20 [some (.ref 10), some (.int p2), some (.int p3), some (.long p4), none, some (.int p5), some (.ref 1), none, none, none, none, none] [.int (f_X3_outStart σ p2)] σ
      refine jv_istore (x := (f_X3_outStart σ p2)) (L' := [some (.ref 10), some (.int p2), some (.int p3), some (.long p4), none, some (.int p5), some (.ref 1), some (.int (f_X3_outStart σ p2)), none, none, none, none]) (pc' := 22) hE dX5_explore_20 rfl (by decide) rfl rfl ?_
      obtain ⟨q9, hq9, h⟩ := jv_bd_some h
      refine jv_forget [true, true, true, true, true, true, true, true, true, true, true, true] (lp_X5_explore_22 hE hrec jv_fuel (f_X3_outStart σ p2) σ _ hq9 ?_)
      cases h
      exact hret _ _ dX5_explore_139
    · rw [if_neg c1] at h
      cases h
      exact hret _ _ dX5_explore_7
theorem ok_X5_explore {G : jv_G} {l : Launch} {σ : jv_S} {p2 : Int32} {p3 : Int32} {p4 : Int64} {p5 : Int32} {r : jv_S} (h : f_X5_explore 12 σ p2 p3 p4 p5 = some r) : jv_Cn G l 16 M_X5_explore [.ref 10, .int p2, .int p3, .long p4, .int p5] σ (none) r := ok_X5_explore_n 12 h
noncomputable def f_X5_turnPage (σ : jv_S) : Option (jv_S) := jv_bd (f_X2_measureTo 13 (jv_si (jv_si σ 10 3 (0 : Int32)) 10 4 (0 : Int32)) (σ.1 10 6)) (fun q1 => jv_bd (f_X5_explore 12 q1 (q1.1 10 5) ((1 : Int32) <<< ((q1.1 10 5) &&& 31)) (0 : Int64) (0 : Int32)) (fun q2 => some q2))
set_option maxRecDepth 100000 in
set_option maxHeartbeats 4000000 in
theorem ok_X5_turnPage {G : jv_G} {l : Launch} {σ : jv_S} {r : jv_S} (h : f_X5_turnPage σ = some r) : jv_Cn G l 17 M_X5_turnPage [.ref 10] σ (none) r := by
  refine jv_of (L0 := [some (.ref 10)]) (by decide +kernel) (Nat.le_of_ble_eq_true rfl) rfl jv_okV (fun E e1 e2 hE hret => ?_)
  unfold f_X5_turnPage at h
  refine jv_aload_n (x := 10) (pc' := 1) hE dX5_turnPage_0 rfl 0 rfl rfl ?_
  refine jv_iconst (v := (0 : Int32)) (pc' := 2) hE dX5_turnPage_1 rfl (by decide) ?_
  refine jv_puti (x := (0 : Int32)) (pc' := 5) hE dX5_turnPage_2 rfl lP_X5_42 rfl rfl rfl rfl ?_
  refine jv_aload_n (x := 10) (pc' := 6) hE dX5_turnPage_5 rfl 0 rfl rfl ?_
  refine jv_iconst (v := (0 : Int32)) (pc' := 7) hE dX5_turnPage_6 rfl (by decide) ?_
  refine jv_puti (x := (0 : Int32)) (pc' := 10) hE dX5_turnPage_7 rfl lP_X5_45 rfl rfl rfl rfl ?_
  refine jv_aload_n (x := 10) (pc' := 11) hE dX5_turnPage_10 rfl 0 rfl rfl ?_
  refine jv_get (v := .ref 12) (pc' := 14) hE dX5_turnPage_11 rfl lF_X5_24 rfl rfl rfl ?_
  refine jv_aload_n (x := 10) (pc' := 15) hE dX5_turnPage_14 rfl 0 rfl rfl ?_
  refine jv_get (v := .int (σ.1 10 6)) (pc' := 18) hE dX5_turnPage_15 rfl lF_X5_32 rfl rfl rfl ?_
  obtain ⟨q1, hq1, h⟩ := jv_bd_some h
  refine jv_callV (pc' := 21) (o := none) (σ' := q1) hE dX5_turnPage_18 rfl lV_X5_55 (ok_X2_measureTo_12 hq1) rfl rfl rfl (by decide) rfl (Nat.le_of_ble_eq_true rfl) ?_
  show jv_V E 21 [some (.ref 10)] [] q1
  refine jv_aload_n (x := 10) (pc' := 22) hE dX5_turnPage_21 rfl 0 rfl rfl ?_
  refine jv_aload_n (x := 10) (pc' := 23) hE dX5_turnPage_22 rfl 0 rfl rfl ?_
  refine jv_get (v := .int (q1.1 10 5)) (pc' := 26) hE dX5_turnPage_23 rfl lF_X5_28 rfl rfl rfl ?_
  refine jv_iconst (v := (1 : Int32)) (pc' := 27) hE dX5_turnPage_26 rfl (by decide) ?_
  refine jv_aload_n (x := 10) (pc' := 28) hE dX5_turnPage_27 rfl 0 rfl rfl ?_
  refine jv_get (v := .int (q1.1 10 5)) (pc' := 31) hE dX5_turnPage_28 rfl lF_X5_28 rfl rfl rfl ?_
  refine jv_ishl (x := (1 : Int32)) (y := (q1.1 10 5)) (pc' := 32) hE dX5_turnPage_31 rfl ?_
  refine jv_lconst (v := (0 : Int64)) (pc' := 33) hE dX5_turnPage_32 rfl (by decide) ?_
  refine jv_iconst (v := (0 : Int32)) (pc' := 34) hE dX5_turnPage_33 rfl (by decide) ?_
  obtain ⟨q2, hq2, h⟩ := jv_bd_some h
  refine jv_callS (pc' := 37) (o := none) (σ' := q2) hE dX5_turnPage_34 rfl lS_X5_59 (ok_X5_explore hq2) rfl (by decide) rfl (Nat.le_of_ble_eq_true rfl) ?_
  show jv_V E 37 [some (.ref 10)] [] q2
  cases h
  exact hret _ _ dX5_turnPage_37
noncomputable def f_X5_advance (σ : jv_S) : Option (Bool × jv_S) := jv_bd (if (σ.1 10 4) < (σ.1 10 3) then (some σ) else (jv_bd (f_X5_turnPage σ) (fun q3 => some q3))) (fun q2 => if (q2.1 10 4) < (q2.1 10 3) then (some (true, (jv_si (jv_si (jv_sl q2 10 8 (jv_rd (q2.2 11) 16 0 (q2.1 10 4))) 10 4 ((q2.1 10 4) + (1 : Int32))) 10 7 ((q2.1 10 7) + (1 : Int32))))) else (some (false, q2)))
set_option maxRecDepth 100000 in
set_option maxHeartbeats 4000000 in
theorem ok_X5_advance {G : jv_G} {l : Launch} {σ : jv_S} {r : Bool × jv_S} (h : f_X5_advance σ = some r) : jv_Cn G l 18 M_X5_advance [.ref 10] σ (some (.int (jv_b r.1))) r.2 := by
  refine jv_of (L0 := [some (.ref 10)]) (by decide +kernel) (Nat.le_of_ble_eq_true rfl) rfl (jv_okZ _) (fun E e1 e2 hE hret => ?_)
  unfold f_X5_advance at h
  refine jv_aload_n (x := 10) (pc' := 1) hE dX5_advance_0 rfl 0 rfl rfl ?_
  refine jv_get (v := .int (σ.1 10 4)) (pc' := 4) hE dX5_advance_1 rfl lF_X5_45 rfl rfl rfl ?_
  refine jv_aload_n (x := 10) (pc' := 5) hE dX5_advance_4 rfl 0 rfl rfl ?_
  refine jv_get (v := .int (σ.1 10 3)) (pc' := 8) hE dX5_advance_5 rfl lF_X5_42 rfl rfl rfl ?_
  obtain ⟨q2, hq2, h⟩ := jv_bd_some h
  have kq2 : jv_V E 15 [some (.ref 10)] [] q2 := by
    refine jv_aload_n (x := 10) (pc' := 16) hE dX5_advance_15 rfl 0 rfl rfl ?_
    refine jv_get (v := .int (q2.1 10 4)) (pc' := 19) hE dX5_advance_16 rfl lF_X5_45 rfl rfl rfl ?_
    refine jv_aload_n (x := 10) (pc' := 20) hE dX5_advance_19 rfl 0 rfl rfl ?_
    refine jv_get (v := .int (q2.1 10 3)) (pc' := 23) hE dX5_advance_20 rfl lF_X5_42 rfl rfl rfl ?_
    refine jv_icmp_lt (x := (q2.1 10 4)) (y := (q2.1 10 3)) (tgt := 28) (pc' := 26) hE dX5_advance_23 (by decide) rfl (fun c4 => ?_) (fun c4 => ?_)
    · rw [if_pos c4] at h
      refine jv_aload_n (x := 10) (pc' := 29) hE dX5_advance_28 rfl 0 rfl rfl ?_
      refine jv_aload_n (x := 10) (pc' := 30) hE dX5_advance_29 rfl 0 rfl rfl ?_
      refine jv_get (v := .ref 11) (pc' := 33) hE dX5_advance_30 rfl lF_X5_11 rfl rfl rfl ?_
      refine jv_aload_n (x := 10) (pc' := 34) hE dX5_advance_33 rfl 0 rfl rfl ?_
      refine jv_get (v := .int (q2.1 10 4)) (pc' := 37) hE dX5_advance_34 rfl lF_X5_45 rfl rfl rfl ?_
      refine jv_callN (pc' := 40) (o := some (.long (jv_rd (q2.2 11) 16 0 (q2.1 10 4)))) (σ' := q2) hE dX5_advance_37 rfl lN_X5_51 (ok_X7_at_ (n := 16) (by decide) rfl rfl) rfl (by decide) rfl (Nat.le_of_ble_eq_true rfl) ?_
      show jv_V E 40 [some (.ref 10)] [.long (jv_rd (q2.2 11) 16 0 (q2.1 10 4)), .ref 10] q2
      refine jv_putl (x := (jv_rd (q2.2 11) 16 0 (q2.1 10 4))) (pc' := 43) hE dX5_advance_40 rfl lP_X5_38 rfl rfl rfl rfl ?_
      refine jv_aload_n (x := 10) (pc' := 44) hE dX5_advance_43 rfl 0 rfl rfl ?_
      refine jv_dup (pc' := 45) hE dX5_advance_44 rfl rfl ?_
      refine jv_get (v := .int (q2.1 10 4)) (pc' := 48) hE dX5_advance_45 rfl lF_X5_45 rfl rfl rfl ?_
      refine jv_iconst (v := (1 : Int32)) (pc' := 49) hE dX5_advance_48 rfl (by decide) ?_
      refine jv_iadd (x := (q2.1 10 4)) (y := (1 : Int32)) (pc' := 50) hE dX5_advance_49 rfl ?_
      refine jv_puti (x := ((q2.1 10 4) + (1 : Int32))) (pc' := 53) hE dX5_advance_50 rfl lP_X5_45 rfl rfl rfl rfl ?_
      refine jv_aload_n (x := 10) (pc' := 54) hE dX5_advance_53 rfl 0 rfl rfl ?_
      refine jv_dup (pc' := 55) hE dX5_advance_54 rfl rfl ?_
      refine jv_get (v := .int (q2.1 10 7)) (pc' := 58) hE dX5_advance_55 rfl lF_X5_35 rfl rfl rfl ?_
      refine jv_iconst (v := (1 : Int32)) (pc' := 59) hE dX5_advance_58 rfl (by decide) ?_
      refine jv_iadd (x := (q2.1 10 7)) (y := (1 : Int32)) (pc' := 60) hE dX5_advance_59 rfl ?_
      refine jv_puti (x := ((q2.1 10 7) + (1 : Int32))) (pc' := 63) hE dX5_advance_60 rfl lP_X5_35 rfl rfl rfl rfl ?_
      refine jv_iconst (v := (1 : Int32)) (pc' := 64) hE dX5_advance_63 rfl (by decide) ?_
      cases h
      exact hret _ _ dX5_advance_64
    · rw [if_neg c4] at h
      refine jv_iconst (v := (0 : Int32)) (pc' := 27) hE dX5_advance_26 rfl (by decide) ?_
      cases h
      exact hret _ _ dX5_advance_27
  refine jv_icmp_lt (x := (σ.1 10 4)) (y := (σ.1 10 3)) (tgt := 15) (pc' := 11) hE dX5_advance_8 (by decide) rfl (fun c1 => ?_) (fun c1 => ?_)
  · rw [if_pos c1] at hq2
    cases hq2
    exact jv_forget [true] kq2
  · rw [if_neg c1] at hq2
    refine jv_aload_n (x := 10) (pc' := 12) hE dX5_advance_11 rfl 0 rfl rfl ?_
    obtain ⟨q3, hq3, hq2⟩ := jv_bd_some hq2
    refine jv_callV (pc' := 15) (o := none) (σ' := q3) hE dX5_advance_12 rfl lV_X5_48 (ok_X5_turnPage hq3) rfl rfl rfl (by decide) rfl (Nat.le_of_ble_eq_true rfl) ?_
    show jv_V E 15 [some (.ref 10)] [] q3
    cases hq2
    exact jv_forget [true] kq2
noncomputable def f_X5_currentLength (σ : jv_S) : Int32 := (((σ.2 10 8).toUInt64 >>> ((45 : Int32).toInt64.toUInt64 &&& Int64.toUInt64 63)).toInt64).toInt32
set_option maxRecDepth 100000 in
set_option maxHeartbeats 4000000 in
theorem ok_X5_currentLength {G : jv_G} {l : Launch} {σ : jv_S} {r : Int32} (h : f_X5_currentLength σ = r) : jv_Cn G l 1 M_X5_currentLength [.ref 10] σ (some (.int r)) σ := by
  refine jv_of (L0 := [some (.ref 10)]) (by decide +kernel) (Nat.le_of_ble_eq_true rfl) rfl (jv_okI _) (fun E e1 e2 hE hret => ?_)
  unfold f_X5_currentLength at h
  refine jv_aload_n (x := 10) (pc' := 1) hE dX5_currentLength_0 rfl 0 rfl rfl ?_
  refine jv_get (v := .long (σ.2 10 8)) (pc' := 4) hE dX5_currentLength_1 rfl lF_X5_38 rfl rfl rfl ?_
  refine jv_bipush (v := (45 : Int32)) (pc' := 6) hE dX5_currentLength_4 rfl (by decide) ?_
  refine jv_lushr (x := (σ.2 10 8)) (y := (45 : Int32)) (pc' := 7) hE dX5_currentLength_6 rfl ?_
  refine jv_l2i (x := (((σ.2 10 8).toUInt64 >>> ((45 : Int32).toInt64.toUInt64 &&& Int64.toUInt64 63)).toInt64)) (pc' := 8) hE dX5_currentLength_7 rfl ?_
  cases h
  exact hret _ _ dX5_currentLength_8
noncomputable def f_X5_drawnTotal (σ : jv_S) : Int32 := (σ.1 10 7)
set_option maxRecDepth 100000 in
set_option maxHeartbeats 4000000 in
theorem ok_X5_drawnTotal {G : jv_G} {l : Launch} {σ : jv_S} {r : Int32} (h : f_X5_drawnTotal σ = r) : jv_Cn G l 1 M_X5_drawnTotal [.ref 10] σ (some (.int r)) σ := by
  refine jv_of (L0 := [some (.ref 10)]) (by decide +kernel) (Nat.le_of_ble_eq_true rfl) rfl (jv_okI _) (fun E e1 e2 hE hret => ?_)
  unfold f_X5_drawnTotal at h
  refine jv_aload_n (x := 10) (pc' := 1) hE dX5_drawnTotal_0 rfl 0 rfl rfl ?_
  refine jv_get (v := .int (σ.1 10 7)) (pc' := 4) hE dX5_drawnTotal_1 rfl lF_X5_35 rfl rfl rfl ?_
  cases h
  exact hret _ _ dX5_drawnTotal_4
noncomputable def f_X5_currentEdge (σ : jv_S) (p1 : Int32) : Int32 := if p1 < 0 then ((-1 : Int32)) else (if p1 < (9 : Int32) then ((((((σ.2 10 8).toUInt64 >>> ((f_X5_slotShift σ p1).toInt64.toUInt64 &&& Int64.toUInt64 63)).toInt64) &&& (31 : Int64)).toInt32 - (1 : Int32))) else ((-1 : Int32)))
set_option maxRecDepth 100000 in
set_option maxHeartbeats 4000000 in
theorem ok_X5_currentEdge {G : jv_G} {l : Launch} {σ : jv_S} {p1 : Int32} {r : Int32} (h : f_X5_currentEdge σ p1 = r) : jv_Cn G l 2 M_X5_currentEdge [.ref 10, .int p1] σ (some (.int r)) σ := by
  refine jv_of (L0 := [some (.ref 10), some (.int p1)]) (by decide +kernel) (Nat.le_of_ble_eq_true rfl) rfl (jv_okI _) (fun E e1 e2 hE hret => ?_)
  unfold f_X5_currentEdge at h
  refine jv_iload_n (x := p1) (pc' := 1) hE dX5_currentEdge_0 rfl 1 rfl rfl ?_
  refine jv_if_lt (x := p1) (tgt := 10) (pc' := 4) hE dX5_currentEdge_1 (by decide) rfl (fun c1 => ?_) (fun c1 => ?_)
  · rw [if_pos c1] at h
    refine jv_iconst (v := (-1 : Int32)) (pc' := 11) hE dX5_currentEdge_10 rfl (by decide) ?_
    cases h
    exact hret _ _ dX5_currentEdge_11
  · rw [if_neg c1] at h
    refine jv_iload_n (x := p1) (pc' := 5) hE dX5_currentEdge_4 rfl 1 rfl rfl ?_
    refine jv_bipush (v := (9 : Int32)) (pc' := 7) hE dX5_currentEdge_5 rfl (by decide) ?_
    refine jv_icmp_lt (x := p1) (y := (9 : Int32)) (tgt := 12) (pc' := 10) hE dX5_currentEdge_7 (by decide) rfl (fun c2 => ?_) (fun c2 => ?_)
    · rw [if_pos c2] at h
      refine jv_aload_n (x := 10) (pc' := 13) hE dX5_currentEdge_12 rfl 0 rfl rfl ?_
      refine jv_get (v := .long (σ.2 10 8)) (pc' := 16) hE dX5_currentEdge_13 rfl lF_X5_38 rfl rfl rfl ?_
      refine jv_iload_n (x := p1) (pc' := 17) hE dX5_currentEdge_16 rfl 1 rfl rfl ?_
      refine jv_callS (pc' := 20) (o := some (.int (f_X5_slotShift σ p1))) (σ' := σ) hE dX5_currentEdge_17 rfl lS_X5_85 (ok_X5_slotShift rfl) rfl (by decide) rfl (Nat.le_of_ble_eq_true rfl) ?_
      show jv_V E 20 [some (.ref 10), some (.int p1)] [.int (f_X5_slotShift σ p1), .long (σ.2 10 8)] σ
      refine jv_lushr (x := (σ.2 10 8)) (y := (f_X5_slotShift σ p1)) (pc' := 21) hE dX5_currentEdge_20 rfl ?_
      refine jv_ldc2 (v := (31 : Int64)) (pc' := 24) hE dX5_currentEdge_21 rfl lC_X5_118 ?_
      refine jv_land (x := (((σ.2 10 8).toUInt64 >>> ((f_X5_slotShift σ p1).toInt64.toUInt64 &&& Int64.toUInt64 63)).toInt64)) (y := (31 : Int64)) (pc' := 25) hE dX5_currentEdge_24 rfl ?_
      refine jv_l2i (x := ((((σ.2 10 8).toUInt64 >>> ((f_X5_slotShift σ p1).toInt64.toUInt64 &&& Int64.toUInt64 63)).toInt64) &&& (31 : Int64))) (pc' := 26) hE dX5_currentEdge_25 rfl ?_
      refine jv_iconst (v := (1 : Int32)) (pc' := 27) hE dX5_currentEdge_26 rfl (by decide) ?_
      refine jv_isub (x := ((((σ.2 10 8).toUInt64 >>> ((f_X5_slotShift σ p1).toInt64.toUInt64 &&& Int64.toUInt64 63)).toInt64) &&& (31 : Int64)).toInt32) (y := (1 : Int32)) (pc' := 28) hE dX5_currentEdge_27 rfl ?_
      cases h
      exact hret _ _ dX5_currentEdge_28
    · rw [if_neg c2] at h
      refine jv_iconst (v := (-1 : Int32)) (pc' := 11) hE dX5_currentEdge_10 rfl (by decide) ?_
      cases h
      exact hret _ _ dX5_currentEdge_11
noncomputable def f_X5_currentSize_lp2 : Nat → Int32 → jv_S → Option (Int32)
  | 0, _, _ => none
  | n + 1, v1, σ => if (9 : Int32) ≤ v1 then (some v1) else (if (f_X5_currentEdge σ v1) = (-1 : Int32) then (some v1) else (f_X5_currentSize_lp2 n (v1 + (1 : Int32)) σ))
noncomputable def f_X5_currentSize (σ : jv_S) : Option (Int32) := jv_bd (f_X5_currentSize_lp2 jv_fuel (0 : Int32) σ) (fun q3 => some q3)
set_option maxRecDepth 100000 in
set_option maxHeartbeats 4000000 in
theorem lp_X5_currentSize_2 {σ : jv_S} {E : jv_E} (hE : jv_Cx E RX5 cX5_currentSize 2 3) : ∀ (n : Nat) (v1 : Int32)  (q : Int32), f_X5_currentSize_lp2 n v1 σ = some q → (jv_V E 23 [none, some (.int q)] [] σ) → jv_V E 2 [some (.ref 10), some (.int v1)] [] σ := by
  intro n
  induction n with
  | zero =>
    intro v1 q h
    rw [f_X5_currentSize_lp2] at h
    cases h
  | succ n ih =>
    intro v1 q h hk
    rw [f_X5_currentSize_lp2] at h
    refine jv_iload_n (x := v1) (pc' := 3) hE dX5_currentSize_2 rfl 1 rfl rfl ?_
    refine jv_bipush (v := (9 : Int32)) (pc' := 5) hE dX5_currentSize_3 rfl (by decide) ?_
    refine jv_icmp_ge (x := v1) (y := (9 : Int32)) (tgt := 23) (pc' := 8) hE dX5_currentSize_5 (by decide) rfl (fun c1 => ?_) (fun c1 => ?_)
    · rw [if_pos c1] at h
      cases h
      exact jv_forget [false, true] hk
    · rw [if_neg c1] at h
      refine jv_aload_n (x := 10) (pc' := 9) hE dX5_currentSize_8 rfl 0 rfl rfl ?_
      refine jv_iload_n (x := v1) (pc' := 10) hE dX5_currentSize_9 rfl 1 rfl rfl ?_
      refine jv_callV (pc' := 13) (o := some (.int (f_X5_currentEdge σ v1))) (σ' := σ) hE dX5_currentSize_10 rfl lV_X5_120 (ok_X5_currentEdge rfl) rfl rfl rfl (by decide) rfl (Nat.le_of_ble_eq_true rfl) ?_
      show jv_V E 13 [some (.ref 10), some (.int v1)] [.int (f_X5_currentEdge σ v1)] σ
      refine jv_iconst (v := (-1 : Int32)) (pc' := 14) hE dX5_currentSize_13 rfl (by decide) ?_
      refine jv_icmp_eq (x := (f_X5_currentEdge σ v1)) (y := (-1 : Int32)) (tgt := 23) (pc' := 17) hE dX5_currentSize_14 (by decide) rfl (fun c2 => ?_) (fun c2 => ?_)
      · rw [if_pos c2] at h
        cases h
        exact jv_forget [false, true] hk
      · rw [if_neg c2] at h
        refine jv_iinc (x := v1) (v := (v1 + (1 : Int32))) (L' := [some (.ref 10), some (.int (v1 + (1 : Int32)))]) (pc' := 20) hE dX5_currentSize_17 rfl rfl rfl (by decide) rfl rfl ?_
        refine jv_goto (tgt := 2) hE dX5_currentSize_20 (by decide) ?_
        exact jv_forget [true, true] (ih (v1 + (1 : Int32)) _ h hk)
set_option maxRecDepth 100000 in
set_option maxHeartbeats 4000000 in
theorem ok_X5_currentSize {G : jv_G} {l : Launch} {σ : jv_S} {r : Int32} (h : f_X5_currentSize σ = some r) : jv_Cn G l 3 M_X5_currentSize [.ref 10] σ (some (.int r)) σ := by
  refine jv_of (L0 := [some (.ref 10), none]) (by decide +kernel) (Nat.le_of_ble_eq_true rfl) rfl (jv_okI _) (fun E e1 e2 hE hret => ?_)
  unfold f_X5_currentSize at h
  refine jv_iconst (v := (0 : Int32)) (pc' := 1) hE dX5_currentSize_0 rfl (by decide) ?_
  refine jv_istore_n (x := (0 : Int32)) (L' := [some (.ref 10), some (.int (0 : Int32))]) (pc' := 2) hE dX5_currentSize_1 rfl 1 rfl (by decide) rfl rfl ?_
  obtain ⟨q3, hq3, h⟩ := jv_bd_some h
  refine jv_forget [true, true] (lp_X5_currentSize_2 hE jv_fuel (0 : Int32) _ hq3 ?_)
  refine jv_iload_n (x := q3) (pc' := 24) hE dX5_currentSize_23 rfl 1 rfl rfl ?_
  cases h
  exact hret _ _ dX5_currentSize_24
