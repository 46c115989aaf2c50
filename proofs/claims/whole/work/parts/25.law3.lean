noncomputable def f_L_sw (N : Nat) (xs : Nat → Int32) (v4 : Int32) (σ : jv_S) : Option jv_S := if (xs v4.toNatClampNeg &&& (31 : Int32)) = (0 : Int32) then f_L_case0 N xs v4 σ else (if (xs v4.toNatClampNeg &&& (31 : Int32)) = (1 : Int32) then f_L_case1 N xs v4 σ else (if (xs v4.toNatClampNeg &&& (31 : Int32)) = (2 : Int32) then f_L_case2 N xs v4 σ else (if (xs v4.toNatClampNeg &&& (31 : Int32)) = (3 : Int32) then f_L_case3 N xs v4 σ else (if (xs v4.toNatClampNeg &&& (31 : Int32)) = (4 : Int32) then f_L_case4 N xs v4 σ else (if (xs v4.toNatClampNeg &&& (31 : Int32)) = (5 : Int32) then f_L_case5 N xs v4 σ else (if (xs v4.toNatClampNeg &&& (31 : Int32)) = (6 : Int32) then f_L_case6 N xs v4 σ else (if (xs v4.toNatClampNeg &&& (31 : Int32)) = (7 : Int32) then f_L_case7 N xs v4 σ else (if (xs v4.toNatClampNeg &&& (31 : Int32)) = (8 : Int32) then f_L_case8 N xs v4 σ else (if (xs v4.toNatClampNeg &&& (31 : Int32)) = (9 : Int32) then f_L_case9 N xs v4 σ else (if (xs v4.toNatClampNeg &&& (31 : Int32)) = (10 : Int32) then f_L_case10 N xs v4 σ else (if (xs v4.toNatClampNeg &&& (31 : Int32)) = (11 : Int32) then f_L_case11 N xs v4 σ else (if (xs v4.toNatClampNeg &&& (31 : Int32)) = (12 : Int32) then f_L_case12 N xs v4 σ else (if (xs v4.toNatClampNeg &&& (31 : Int32)) = (13 : Int32) then f_L_case13 N xs v4 σ else (if (xs v4.toNatClampNeg &&& (31 : Int32)) = (14 : Int32) then f_L_case14 N xs v4 σ else (if (xs v4.toNatClampNeg &&& (31 : Int32)) = (15 : Int32) then f_L_case15 N xs v4 σ else (if (xs v4.toNatClampNeg &&& (31 : Int32)) = (16 : Int32) then f_L_case16 N xs v4 σ else (if (xs v4.toNatClampNeg &&& (31 : Int32)) = (17 : Int32) then f_L_case17 N xs v4 σ else (if (xs v4.toNatClampNeg &&& (31 : Int32)) = (18 : Int32) then f_L_case18 N xs v4 σ else (if (xs v4.toNatClampNeg &&& (31 : Int32)) = (19 : Int32) then f_L_case19 N xs v4 σ else (if (xs v4.toNatClampNeg &&& (31 : Int32)) = (20 : Int32) then f_L_case20 N xs v4 σ else (if (xs v4.toNatClampNeg &&& (31 : Int32)) = (21 : Int32) then f_L_case21 N xs v4 σ else (if (xs v4.toNatClampNeg &&& (31 : Int32)) = (22 : Int32) then f_L_case22 N xs v4 σ else (if (xs v4.toNatClampNeg &&& (31 : Int32)) = (23 : Int32) then f_L_case23 N xs v4 σ else (if (xs v4.toNatClampNeg &&& (31 : Int32)) = (24 : Int32) then f_L_case24 N xs v4 σ else (if (xs v4.toNatClampNeg &&& (31 : Int32)) = (25 : Int32) then f_L_case25 N xs v4 σ else (some σ))))))))))))))))))))))))))
noncomputable def f_L_lp (N : Nat) (xs : Nat → Int32) : Nat → Int32 → jv_S → Option jv_S
  | 0, _, _ => none
  | n + 1, v4, σ => if (nI N - (5 : Int32)) < v4 then some σ else (if jv_ck v4 N = true then jv_bd (f_L_sw N xs v4 σ) (fun q => f_L_lp N xs n (v4 + (5 : Int32)) q) else none)
theorem jv_sw31 {x : Int32} (h : ∀ j, j < 26 → x ≠ nI j) : x.toInt < 0 ∨ 25 < x.toInt := by
  by_cases h0 : x.toInt < 0
  · exact Or.inl h0
  · by_cases h1 : 25 < x.toInt
    · exact Or.inr h1
    · exfalso
      have e : x = nI x.toInt.toNat := by
        apply Int32.toInt_inj.mp
        rw [nI_toInt (by omega)]
        omega
      exact h x.toInt.toNat (by omega) e
set_option maxRecDepth 100000 in
set_option maxHeartbeats 4000000 in
theorem lsw {E : jv_E} {N : Nat} {xs : Nat → Int32} (hl0 : (jv_l E).stackTraces = false) (hE : jv_Cx E RL cL_law 7 21) (hR : jv_rc E 1) (hS : jv_Sc E N xs) {v4 : Int32} {σ q : jv_S} (hq : f_L_sw N xs v4 σ = some q) (hk : jv_V (jv_E1 E) 1620 [some (.ref 62), some (.ref 0), some (.ref 35), some (.ref 61), some (.int v4), none, none] [] q) : jv_V E 39 [some (.ref 62), some (.ref 0), some (.ref 35), some (.ref 61), some (.int v4), none, none] [.int (xs v4.toNatClampNeg &&& (31 : Int32))] σ := by
  unfold f_L_sw at hq
  by_cases s0 : (xs v4.toNatClampNeg &&& (31 : Int32)) = (0 : Int32)
  · rw [if_pos s0] at hq
    exact jv_swIn (tgt := 156) 0 hE dL_law_39 s0 (by decide) (by decide) rfl (by decide) (lc_0 hl0 hE hR hS hq hk)
  rw [if_neg s0] at hq
  by_cases s1 : (xs v4.toNatClampNeg &&& (31 : Int32)) = (1 : Int32)
  · rw [if_pos s1] at hq
    exact jv_swIn (tgt := 192) 1 hE dL_law_39 s1 (by decide) (by decide) rfl (by decide) (lc_1 hl0 hE hR hS hq hk)
  rw [if_neg s1] at hq
  by_cases s2 : (xs v4.toNatClampNeg &&& (31 : Int32)) = (2 : Int32)
  · rw [if_pos s2] at hq
    exact jv_swIn (tgt := 272) 2 hE dL_law_39 s2 (by decide) (by decide) rfl (by decide) (lc_2 hl0 hE hR hS hq hk)
  rw [if_neg s2] at hq
  by_cases s3 : (xs v4.toNatClampNeg &&& (31 : Int32)) = (3 : Int32)
  · rw [if_pos s3] at hq
    exact jv_swIn (tgt := 340) 3 hE dL_law_39 s3 (by decide) (by decide) rfl (by decide) (lc_3 hl0 hE hR hS hq hk)
  rw [if_neg s3] at hq
  by_cases s4 : (xs v4.toNatClampNeg &&& (31 : Int32)) = (4 : Int32)
  · rw [if_pos s4] at hq
    exact jv_swIn (tgt := 403) 4 hE dL_law_39 s4 (by decide) (by decide) rfl (by decide) (lc_4 hl0 hE hR hS hq hk)
  rw [if_neg s4] at hq
  by_cases s5 : (xs v4.toNatClampNeg &&& (31 : Int32)) = (5 : Int32)
  · rw [if_pos s5] at hq
    exact jv_swIn (tgt := 466) 5 hE dL_law_39 s5 (by decide) (by decide) rfl (by decide) (lc_5 hl0 hE hR hS hq hk)
  rw [if_neg s5] at hq
  by_cases s6 : (xs v4.toNatClampNeg &&& (31 : Int32)) = (6 : Int32)
  · rw [if_pos s6] at hq
    exact jv_swIn (tgt := 541) 6 hE dL_law_39 s6 (by decide) (by decide) rfl (by decide) (lc_6 hl0 hE hR hS hq hk)
  rw [if_neg s6] at hq
  by_cases s7 : (xs v4.toNatClampNeg &&& (31 : Int32)) = (7 : Int32)
  · rw [if_pos s7] at hq
    exact jv_swIn (tgt := 554) 7 hE dL_law_39 s7 (by decide) (by decide) rfl (by decide) (lc_7 hl0 hE hR hS hq hk)
  rw [if_neg s7] at hq
  by_cases s8 : (xs v4.toNatClampNeg &&& (31 : Int32)) = (8 : Int32)
  · rw [if_pos s8] at hq
    exact jv_swIn (tgt := 567) 8 hE dL_law_39 s8 (by decide) (by decide) rfl (by decide) (lc_8 hl0 hE hR hS hq hk)
  rw [if_neg s8] at hq
  by_cases s9 : (xs v4.toNatClampNeg &&& (31 : Int32)) = (9 : Int32)
  · rw [if_pos s9] at hq
    exact jv_swIn (tgt := 580) 9 hE dL_law_39 s9 (by decide) (by decide) rfl (by decide) (lc_9 hl0 hE hR hS hq hk)
  rw [if_neg s9] at hq
  by_cases s10 : (xs v4.toNatClampNeg &&& (31 : Int32)) = (10 : Int32)
  · rw [if_pos s10] at hq
    exact jv_swIn (tgt := 648) 10 hE dL_law_39 s10 (by decide) (by decide) rfl (by decide) (lc_10 hl0 hE hR hS hq hk)
  rw [if_neg s10] at hq
  by_cases s11 : (xs v4.toNatClampNeg &&& (31 : Int32)) = (11 : Int32)
  · rw [if_pos s11] at hq
    exact jv_swIn (tgt := 696) 11 hE dL_law_39 s11 (by decide) (by decide) rfl (by decide) (lc_11 hl0 hE hR hS hq hk)
  rw [if_neg s11] at hq
  by_cases s12 : (xs v4.toNatClampNeg &&& (31 : Int32)) = (12 : Int32)
  · rw [if_pos s12] at hq
    exact jv_swIn (tgt := 740) 12 hE dL_law_39 s12 (by decide) (by decide) rfl (by decide) (lc_12 hl0 hE hR hS hq hk)
  rw [if_neg s12] at hq
  by_cases s13 : (xs v4.toNatClampNeg &&& (31 : Int32)) = (13 : Int32)
  · rw [if_pos s13] at hq
    exact jv_swIn (tgt := 784) 13 hE dL_law_39 s13 (by decide) (by decide) rfl (by decide) (lc_13 hl0 hE hR hS hq hk)
  rw [if_neg s13] at hq
  by_cases s14 : (xs v4.toNatClampNeg &&& (31 : Int32)) = (14 : Int32)
  · rw [if_pos s14] at hq
    exact jv_swIn (tgt := 828) 14 hE dL_law_39 s14 (by decide) (by decide) rfl (by decide) (lc_14 hl0 hE hR hS hq hk)
  rw [if_neg s14] at hq
  by_cases s15 : (xs v4.toNatClampNeg &&& (31 : Int32)) = (15 : Int32)
  · rw [if_pos s15] at hq
    exact jv_swIn (tgt := 884) 15 hE dL_law_39 s15 (by decide) (by decide) rfl (by decide) (lc_15 hl0 hE hR hS hq hk)
  rw [if_neg s15] at hq
  by_cases s16 : (xs v4.toNatClampNeg &&& (31 : Int32)) = (16 : Int32)
  · rw [if_pos s16] at hq
    exact jv_swIn (tgt := 964) 16 hE dL_law_39 s16 (by decide) (by decide) rfl (by decide) (lc_16 hl0 hE hR hS hq hk)
  rw [if_neg s16] at hq
  by_cases s17 : (xs v4.toNatClampNeg &&& (31 : Int32)) = (17 : Int32)
  · rw [if_pos s17] at hq
    exact jv_swIn (tgt := 1012) 17 hE dL_law_39 s17 (by decide) (by decide) rfl (by decide) (lc_17 hl0 hE hR hS hq hk)
  rw [if_neg s17] at hq
  by_cases s18 : (xs v4.toNatClampNeg &&& (31 : Int32)) = (18 : Int32)
  · rw [if_pos s18] at hq
    exact jv_swIn (tgt := 1056) 18 hE dL_law_39 s18 (by decide) (by decide) rfl (by decide) (lc_18 hl0 hE hR hS hq hk)
  rw [if_neg s18] at hq
  by_cases s19 : (xs v4.toNatClampNeg &&& (31 : Int32)) = (19 : Int32)
  · rw [if_pos s19] at hq
    exact jv_swIn (tgt := 1100) 19 hE dL_law_39 s19 (by decide) (by decide) rfl (by decide) (lc_19 hl0 hE hR hS hq hk)
  rw [if_neg s19] at hq
  by_cases s20 : (xs v4.toNatClampNeg &&& (31 : Int32)) = (20 : Int32)
  · rw [if_pos s20] at hq
    exact jv_swIn (tgt := 1144) 20 hE dL_law_39 s20 (by decide) (by decide) rfl (by decide) (lc_20 hl0 hE hR hS hq hk)
  rw [if_neg s20] at hq
  by_cases s21 : (xs v4.toNatClampNeg &&& (31 : Int32)) = (21 : Int32)
  · rw [if_pos s21] at hq
    exact jv_swIn (tgt := 1200) 21 hE dL_law_39 s21 (by decide) (by decide) rfl (by decide) (lc_21 hl0 hE hR hS hq hk)
  rw [if_neg s21] at hq
  by_cases s22 : (xs v4.toNatClampNeg &&& (31 : Int32)) = (22 : Int32)
  · rw [if_pos s22] at hq
    exact jv_swIn (tgt := 1296) 22 hE dL_law_39 s22 (by decide) (by decide) rfl (by decide) (lc_22 hl0 hE hR hS hq hk)
  rw [if_neg s22] at hq
  by_cases s23 : (xs v4.toNatClampNeg &&& (31 : Int32)) = (23 : Int32)
  · rw [if_pos s23] at hq
    exact jv_swIn (tgt := 1404) 23 hE dL_law_39 s23 (by decide) (by decide) rfl (by decide) (lc_23 hl0 hE hR hS hq hk)
  rw [if_neg s23] at hq
  by_cases s24 : (xs v4.toNatClampNeg &&& (31 : Int32)) = (24 : Int32)
  · rw [if_pos s24] at hq
    exact jv_swIn (tgt := 1472) 24 hE dL_law_39 s24 (by decide) (by decide) rfl (by decide) (lc_24 hl0 hE hR hS hq hk)
  rw [if_neg s24] at hq
  by_cases s25 : (xs v4.toNatClampNeg &&& (31 : Int32)) = (25 : Int32)
  · rw [if_pos s25] at hq
    exact jv_swIn (tgt := 1540) 25 hE dL_law_39 s25 (by decide) (by decide) rfl (by decide) (lc_25 hl0 hE hR hS hq hk)
  rw [if_neg s25] at hq
  cases hq
  refine jv_swOut (tgt := 1620) hE dL_law_39 (jv_sw31 (fun j hj => ?_)) (by decide) (jv_wide hk)
  match j, hj with
  | 0, _ => exact s0
  | 1, _ => exact s1
  | 2, _ => exact s2
  | 3, _ => exact s3
  | 4, _ => exact s4
  | 5, _ => exact s5
  | 6, _ => exact s6
  | 7, _ => exact s7
  | 8, _ => exact s8
  | 9, _ => exact s9
  | 10, _ => exact s10
  | 11, _ => exact s11
  | 12, _ => exact s12
  | 13, _ => exact s13
  | 14, _ => exact s14
  | 15, _ => exact s15
  | 16, _ => exact s16
  | 17, _ => exact s17
  | 18, _ => exact s18
  | 19, _ => exact s19
  | 20, _ => exact s20
  | 21, _ => exact s21
  | 22, _ => exact s22
  | 23, _ => exact s23
  | 24, _ => exact s24
  | 25, _ => exact s25
  | n + 26, hj => exact absurd hj (by omega)
set_option maxRecDepth 100000 in
set_option maxHeartbeats 4000000 in
theorem lp_law {N : Nat} {xs : Nat → Int32} : ∀ (n : Nat) {E : jv_E}, (jv_l E).stackTraces = false → jv_Cx E RL cL_law 7 21 → jv_rc E n → jv_Sc E N xs → ∀ {v4 : Int32} {σ τ : jv_S}, f_L_lp N xs n v4 σ = some τ → (∀ k, k ≤ n → ∀ L σ, jv_V (jv_En k E) 1627 L [.int 1] σ) → jv_V E 23 [some (.ref 62), some (.ref 0), some (.ref 35), some (.ref 61), some (.int v4), none, none] [] σ := by
  intro n
  induction n with
  | zero =>
    intro E hl0 hE hR hS v4 σ τ h
    rw [f_L_lp] at h
    cases h
  | succ n ih =>
    intro E hl0 hE hR hS v4 σ τ h hend
    rw [f_L_lp] at h
    have hR1 := jv_rc0 hR
    have hE1 := jv_Cx1 hE hR1
    refine jv_iload (x := v4) (pc' := 25) hE dL_law_23 rfl rfl ?_
    refine jv_aload_n (x := 62) (pc' := 26) hE dL_law_25 rfl 0 rfl rfl ?_
    refine jv_slen (pc' := 27) hE hS dL_law_26 rfl ?_
    refine jv_iconst (v := (5 : Int32)) (pc' := 28) hE dL_law_27 rfl (by decide) ?_
    refine jv_isub (x := nI N) (y := (5 : Int32)) (pc' := 29) hE dL_law_28 rfl ?_
    refine jv_icmp_gt (x := v4) (y := (nI N - (5 : Int32))) (tgt := 1626) (pc' := 32) hE dL_law_29 (by decide) rfl (fun c1 => ?_) (fun c1 => ?_)
    · refine jv_iconst (v := (1 : Int32)) (pc' := 1627) hE dL_law_1626 rfl (by decide) ?_
      exact hend 0 (Nat.zero_le _) _ _
    · rw [if_neg c1] at h
      by_cases c2 : jv_ck v4 N = true
      · rw [if_pos c2] at h
        obtain ⟨q, hq, h⟩ := jv_bd_some h
        have hk : jv_V (jv_E1 E) 1620 [some (.ref 62), some (.ref 0), some (.ref 35), some (.ref 61), some (.int v4), none, none] [] q := by
          refine jv_iinc (x := v4) (v := (v4 + (5 : Int32))) (L' := [some (.ref 62), some (.ref 0), some (.ref 35), some (.ref 61), some (.int (v4 + (5 : Int32))), none, none]) (pc' := 1623) hE1 dL_law_1620 rfl rfl rfl (by decide) rfl rfl ?_
          refine jv_goto (tgt := 23) hE1 dL_law_1623 (by decide) ?_
          exact ih (E := jv_E1 E) hl0 hE1 (jv_rc1 hR) (jv_Sc1 hS) h (fun k hk => hend (k + 1) (by omega))
        refine jv_aload_n (x := 62) (pc' := 33) hE dL_law_32 rfl 0 rfl rfl ?_
        refine jv_iload (x := v4) (pc' := 35) hE dL_law_33 rfl rfl ?_
        refine jv_sld (pc' := 36) hE hS dL_law_35 rfl (jv_ck_in c2) ?_
        refine jv_bipush (v := (31 : Int32)) (pc' := 38) hE dL_law_36 rfl (by decide) ?_
        refine jv_iand (x := (xs v4.toNatClampNeg)) (y := (31 : Int32)) (pc' := 39) hE dL_law_38 rfl ?_
        exact lsw hl0 hE hR1 hS hq hk
      · rw [if_neg c2] at h
        cases h
