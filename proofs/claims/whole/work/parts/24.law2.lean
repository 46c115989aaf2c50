noncomputable def f_L_case13 (N : Nat) (xs : Nat → Int32) (v4 : Int32) (σ : jv_S) : Option jv_S := jv_bd (f_L_pathEdges σ) (fun q1 => jv_lt (f_X8_pathEdges q1.2) (fun q2 => if (f_X8_thrown q2.2) = q1.1 then (if q1.1 = 0 then (if jv_ck (0 : Int32) 1 = true then (if (lg_cmp (q2.2.2 61 (0 : Int32).toNatClampNeg) q2.1.toInt64) = 0 then (some q2.2) else (none)) else none) else (some q2.2)) else (none)))
set_option maxRecDepth 100000 in
set_option maxHeartbeats 4000000 in
theorem lc_13 {E : jv_E} {N : Nat} {xs : Nat → Int32} (hl0 : (jv_l E).stackTraces = false) (hE : jv_Cx E RL cL_law 7 21) (hR : jv_rc E 1) (hS : jv_Sc E N xs) {v4 : Int32} {σ τ : jv_S} (h : f_L_case13 N xs v4 σ = some τ) (hk : jv_V (jv_E1 E) 1620 [some (.ref 62), some (.ref 0), some (.ref 35), some (.ref 61), some (.int v4), none, none] [] τ) : jv_V E 784 [some (.ref 62), some (.ref 0), some (.ref 35), some (.ref 61), some (.int v4), none, none] [] σ := by
  unfold f_L_case13 at h
  refine jv_aload_n (x := 0) (pc' := 785) hE dL_law_784 rfl 1 rfl rfl ?_
  refine jv_aload_n (x := 61) (pc' := 786) hE dL_law_785 rfl 3 rfl rfl ?_
  obtain ⟨q1, hq1, h⟩ := jv_bd_some h
  refine jv_callW (pc' := 789) hE hR dL_law_786 rfl lK_L_151 (ok_L_pathEdges hl0 hq1) rfl (by decide) rfl (Nat.le_of_ble_eq_true rfl) ?_
  show jv_V (jv_E1 E) 789 [some (.ref 62), some (.ref 0), some (.ref 35), some (.ref 61), some (.int v4), none, none] [.int q1.1] q1.2
  have hE := jv_Cx1 hE hR
  have hS := jv_Sc1 hS
  refine jv_istore (x := q1.1) (L' := [some (.ref 62), some (.ref 0), some (.ref 35), some (.ref 61), some (.int v4), some (.int q1.1), none]) (pc' := 791) hE dL_law_789 rfl (by decide) rfl rfl ?_
  refine jv_aload_n (x := 35) (pc' := 792) hE dL_law_791 rfl 2 rfl rfl ?_
  obtain ⟨q2, hq2, h⟩ := jv_lt_eq h
  refine jv_callV (pc' := 795) (o := some (.int q2.1)) (σ' := q2.2) hE dL_law_792 rfl lV_L_153 (ok_X8_pathEdges hq2) rfl rfl rfl (by decide) rfl (Nat.le_of_ble_eq_true rfl) ?_
  show jv_V (jv_E1 E) 795 [some (.ref 62), some (.ref 0), some (.ref 35), some (.ref 61), some (.int v4), some (.int q1.1), none] [.int q2.1] q2.2
  refine jv_istore (x := q2.1) (L' := [some (.ref 62), some (.ref 0), some (.ref 35), some (.ref 61), some (.int v4), some (.int q1.1), some (.int q2.1)]) (pc' := 797) hE dL_law_795 rfl (by decide) rfl rfl ?_
  refine jv_aload_n (x := 35) (pc' := 798) hE dL_law_797 rfl 2 rfl rfl ?_
  refine jv_callV (pc' := 801) (o := some (.int (f_X8_thrown q2.2))) (σ' := q2.2) hE dL_law_798 rfl lV_L_104 (ok_X8_thrown rfl) rfl rfl rfl (by decide) rfl (Nat.le_of_ble_eq_true rfl) ?_
  show jv_V (jv_E1 E) 801 [some (.ref 62), some (.ref 0), some (.ref 35), some (.ref 61), some (.int v4), some (.int q1.1), some (.int q2.1)] [.int (f_X8_thrown q2.2)] q2.2
  refine jv_iload (x := q1.1) (pc' := 803) hE dL_law_801 rfl rfl ?_
  refine jv_icmp_eq (x := (f_X8_thrown q2.2)) (y := q1.1) (tgt := 808) (pc' := 806) hE dL_law_803 (by decide) rfl (fun c3 => ?_) (fun c3 => ?_)
  · rw [if_pos c3] at h
    refine jv_iload (x := q1.1) (pc' := 810) hE dL_law_808 rfl rfl ?_
    refine jv_if_ne (x := q1.1) (tgt := 825) (pc' := 813) hE dL_law_810 (by decide) rfl (fun c4 => ?_) (fun c4 => ?_)
    · rw [if_neg c4] at h
      refine jv_goto (tgt := 1620) hE dL_law_825 (by decide) ?_
      cases h
      exact jv_forget [true, true, true, true, true, false, false] hk
    · rw [if_pos c4] at h
      refine jv_aload_n (x := 61) (pc' := 814) hE dL_law_813 rfl 3 rfl rfl ?_
      refine jv_iconst (v := (0 : Int32)) (pc' := 815) hE dL_law_814 rfl (by decide) ?_
      by_cases c5 : jv_ck (0 : Int32) 1 = true
      · rw [if_pos c5] at h
        refine jv_lald (pc' := 816) hE dL_law_815 rfl rfl (jv_ck_in c5) ?_
        show jv_V (jv_E1 E) 816 [some (.ref 62), some (.ref 0), some (.ref 35), some (.ref 61), some (.int v4), some (.int q1.1), some (.int q2.1)] [.long (q2.2.2 61 (0 : Int32).toNatClampNeg)] q2.2
        refine jv_iload (x := q2.1) (pc' := 818) hE dL_law_816 rfl rfl ?_
        refine jv_i2l (x := q2.1) (pc' := 819) hE dL_law_818 rfl ?_
        refine jv_lcmp (x := (q2.2.2 61 (0 : Int32).toNatClampNeg)) (y := q2.1.toInt64) (pc' := 820) hE dL_law_819 rfl ?_
        refine jv_if_eq (x := (lg_cmp (q2.2.2 61 (0 : Int32).toNatClampNeg) q2.1.toInt64)) (tgt := 825) (pc' := 823) hE dL_law_820 (by decide) rfl (fun c6 => ?_) (fun c6 => ?_)
        · rw [if_pos c6] at h
          refine jv_goto (tgt := 1620) hE dL_law_825 (by decide) ?_
          cases h
          exact jv_forget [true, true, true, true, true, false, false] hk
        · rw [if_neg c6] at h
          refine jv_iconst (v := (0 : Int32)) (pc' := 824) hE dL_law_823 rfl (by decide) ?_
          cases h
      · rw [if_neg c5] at h; cases h
  · rw [if_neg c3] at h
    refine jv_iconst (v := (0 : Int32)) (pc' := 807) hE dL_law_806 rfl (by decide) ?_
    cases h
noncomputable def f_L_case14 (N : Nat) (xs : Nat → Int32) (v4 : Int32) (σ : jv_S) : Option jv_S := if jv_ck (v4 + (1 : Int32)) N = true then (jv_bd (f_L_pathEdge σ (xs (v4 + (1 : Int32)).toNatClampNeg)) (fun q2 => if jv_ck (v4 + (1 : Int32)) N = true then (jv_bd (f_X8_pathEdge q2.2 (xs (v4 + (1 : Int32)).toNatClampNeg)) (fun q4 => if (f_X8_thrown q4.2) = q2.1 then (if q2.1 = 0 then (if jv_ck (0 : Int32) 1 = true then (if (lg_cmp (q4.2.2 61 (0 : Int32).toNatClampNeg) q4.1.toInt64) = 0 then (some q4.2) else (none)) else none) else (some q4.2)) else (none))) else none)) else none
set_option maxRecDepth 100000 in
set_option maxHeartbeats 4000000 in
theorem lc_14 {E : jv_E} {N : Nat} {xs : Nat → Int32} (hl0 : (jv_l E).stackTraces = false) (hE : jv_Cx E RL cL_law 7 21) (hR : jv_rc E 1) (hS : jv_Sc E N xs) {v4 : Int32} {σ τ : jv_S} (h : f_L_case14 N xs v4 σ = some τ) (hk : jv_V (jv_E1 E) 1620 [some (.ref 62), some (.ref 0), some (.ref 35), some (.ref 61), some (.int v4), none, none] [] τ) : jv_V E 828 [some (.ref 62), some (.ref 0), some (.ref 35), some (.ref 61), some (.int v4), none, none] [] σ := by
  unfold f_L_case14 at h
  refine jv_aload_n (x := 0) (pc' := 829) hE dL_law_828 rfl 1 rfl rfl ?_
  refine jv_aload_n (x := 62) (pc' := 830) hE dL_law_829 rfl 0 rfl rfl ?_
  refine jv_iload (x := v4) (pc' := 832) hE dL_law_830 rfl rfl ?_
  refine jv_iconst (v := (1 : Int32)) (pc' := 833) hE dL_law_832 rfl (by decide) ?_
  refine jv_iadd (x := v4) (y := (1 : Int32)) (pc' := 834) hE dL_law_833 rfl ?_
  by_cases c1 : jv_ck (v4 + (1 : Int32)) N = true
  · rw [if_pos c1] at h
    refine jv_sld (pc' := 835) hE hS dL_law_834 rfl (jv_ck_in c1) ?_
    show jv_V E 835 [some (.ref 62), some (.ref 0), some (.ref 35), some (.ref 61), some (.int v4), none, none] [.int (xs (v4 + (1 : Int32)).toNatClampNeg), .ref 0] σ
    refine jv_aload_n (x := 61) (pc' := 836) hE dL_law_835 rfl 3 rfl rfl ?_
    obtain ⟨q2, hq2, h⟩ := jv_bd_some h
    refine jv_callW (pc' := 839) hE hR dL_law_836 rfl lK_L_154 (ok_L_pathEdge hl0 hq2) rfl (by decide) rfl (Nat.le_of_ble_eq_true rfl) ?_
    show jv_V (jv_E1 E) 839 [some (.ref 62), some (.ref 0), some (.ref 35), some (.ref 61), some (.int v4), none, none] [.int q2.1] q2.2
    have hE := jv_Cx1 hE hR
    have hS := jv_Sc1 hS
    refine jv_istore (x := q2.1) (L' := [some (.ref 62), some (.ref 0), some (.ref 35), some (.ref 61), some (.int v4), some (.int q2.1), none]) (pc' := 841) hE dL_law_839 rfl (by decide) rfl rfl ?_
    refine jv_aload_n (x := 35) (pc' := 842) hE dL_law_841 rfl 2 rfl rfl ?_
    refine jv_aload_n (x := 62) (pc' := 843) hE dL_law_842 rfl 0 rfl rfl ?_
    refine jv_iload (x := v4) (pc' := 845) hE dL_law_843 rfl rfl ?_
    refine jv_iconst (v := (1 : Int32)) (pc' := 846) hE dL_law_845 rfl (by decide) ?_
    refine jv_iadd (x := v4) (y := (1 : Int32)) (pc' := 847) hE dL_law_846 rfl ?_
    by_cases c3 : jv_ck (v4 + (1 : Int32)) N = true
    · rw [if_pos c3] at h
      refine jv_sld (pc' := 848) hE hS dL_law_847 rfl (jv_ck_in c3) ?_
      show jv_V (jv_E1 E) 848 [some (.ref 62), some (.ref 0), some (.ref 35), some (.ref 61), some (.int v4), some (.int q2.1), none] [.int (xs (v4 + (1 : Int32)).toNatClampNeg), .ref 35] q2.2
      obtain ⟨q4, hq4, h⟩ := jv_bd_some h
      refine jv_callV (pc' := 851) (o := some (.int q4.1)) (σ' := q4.2) hE dL_law_848 rfl lV_L_156 (ok_X8_pathEdge hq4) rfl rfl rfl (by decide) rfl (Nat.le_of_ble_eq_true rfl) ?_
      show jv_V (jv_E1 E) 851 [some (.ref 62), some (.ref 0), some (.ref 35), some (.ref 61), some (.int v4), some (.int q2.1), none] [.int q4.1] q4.2
      refine jv_istore (x := q4.1) (L' := [some (.ref 62), some (.ref 0), some (.ref 35), some (.ref 61), some (.int v4), some (.int q2.1), some (.int q4.1)]) (pc' := 853) hE dL_law_851 rfl (by decide) rfl rfl ?_
      refine jv_aload_n (x := 35) (pc' := 854) hE dL_law_853 rfl 2 rfl rfl ?_
      refine jv_callV (pc' := 857) (o := some (.int (f_X8_thrown q4.2))) (σ' := q4.2) hE dL_law_854 rfl lV_L_104 (ok_X8_thrown rfl) rfl rfl rfl (by decide) rfl (Nat.le_of_ble_eq_true rfl) ?_
      show jv_V (jv_E1 E) 857 [some (.ref 62), some (.ref 0), some (.ref 35), some (.ref 61), some (.int v4), some (.int q2.1), some (.int q4.1)] [.int (f_X8_thrown q4.2)] q4.2
      refine jv_iload (x := q2.1) (pc' := 859) hE dL_law_857 rfl rfl ?_
      refine jv_icmp_eq (x := (f_X8_thrown q4.2)) (y := q2.1) (tgt := 864) (pc' := 862) hE dL_law_859 (by decide) rfl (fun c5 => ?_) (fun c5 => ?_)
      · rw [if_pos c5] at h
        refine jv_iload (x := q2.1) (pc' := 866) hE dL_law_864 rfl rfl ?_
        refine jv_if_ne (x := q2.1) (tgt := 881) (pc' := 869) hE dL_law_866 (by decide) rfl (fun c6 => ?_) (fun c6 => ?_)
        · rw [if_neg c6] at h
          refine jv_goto (tgt := 1620) hE dL_law_881 (by decide) ?_
          cases h
          exact jv_forget [true, true, true, true, true, false, false] hk
        · rw [if_pos c6] at h
          refine jv_aload_n (x := 61) (pc' := 870) hE dL_law_869 rfl 3 rfl rfl ?_
          refine jv_iconst (v := (0 : Int32)) (pc' := 871) hE dL_law_870 rfl (by decide) ?_
          by_cases c7 : jv_ck (0 : Int32) 1 = true
          · rw [if_pos c7] at h
            refine jv_lald (pc' := 872) hE dL_law_871 rfl rfl (jv_ck_in c7) ?_
            show jv_V (jv_E1 E) 872 [some (.ref 62), some (.ref 0), some (.ref 35), some (.ref 61), some (.int v4), some (.int q2.1), some (.int q4.1)] [.long (q4.2.2 61 (0 : Int32).toNatClampNeg)] q4.2
            refine jv_iload (x := q4.1) (pc' := 874) hE dL_law_872 rfl rfl ?_
            refine jv_i2l (x := q4.1) (pc' := 875) hE dL_law_874 rfl ?_
            refine jv_lcmp (x := (q4.2.2 61 (0 : Int32).toNatClampNeg)) (y := q4.1.toInt64) (pc' := 876) hE dL_law_875 rfl ?_
            refine jv_if_eq (x := (lg_cmp (q4.2.2 61 (0 : Int32).toNatClampNeg) q4.1.toInt64)) (tgt := 881) (pc' := 879) hE dL_law_876 (by decide) rfl (fun c8 => ?_) (fun c8 => ?_)
            · rw [if_pos c8] at h
              refine jv_goto (tgt := 1620) hE dL_law_881 (by decide) ?_
              cases h
              exact jv_forget [true, true, true, true, true, false, false] hk
            · rw [if_neg c8] at h
              refine jv_iconst (v := (0 : Int32)) (pc' := 880) hE dL_law_879 rfl (by decide) ?_
              cases h
          · rw [if_neg c7] at h; cases h
      · rw [if_neg c5] at h
        refine jv_iconst (v := (0 : Int32)) (pc' := 863) hE dL_law_862 rfl (by decide) ?_
        cases h
    · rw [if_neg c3] at h; cases h
  · rw [if_neg c1] at h; cases h
noncomputable def f_L_case15 (N : Nat) (xs : Nat → Int32) (v4 : Int32) (σ : jv_S) : Option jv_S := if jv_ck (v4 + (1 : Int32)) N = true then (if jv_ck (v4 + (2 : Int32)) N = true then (if jv_ck (v4 + (3 : Int32)) N = true then (jv_bd (f_L_countPaths σ (xs (v4 + (1 : Int32)).toNatClampNeg) (xs (v4 + (2 : Int32)).toNatClampNeg) (xs (v4 + (3 : Int32)).toNatClampNeg)) (fun q4 => if jv_ck (v4 + (1 : Int32)) N = true then (if jv_ck (v4 + (2 : Int32)) N = true then (if jv_ck (v4 + (3 : Int32)) N = true then (jv_bd (f_X8_countPaths q4.2 (xs (v4 + (1 : Int32)).toNatClampNeg) (xs (v4 + (2 : Int32)).toNatClampNeg) (xs (v4 + (3 : Int32)).toNatClampNeg)) (fun q8 => if (f_X8_thrown q8.2) = q4.1 then (if q4.1 = 0 then (if jv_ck (0 : Int32) 1 = true then (if (lg_cmp (q8.2.2 61 (0 : Int32).toNatClampNeg) q8.1.toInt64) = 0 then (some q8.2) else (none)) else none) else (some q8.2)) else (none))) else none) else none) else none)) else none) else none) else none
set_option maxRecDepth 100000 in
set_option maxHeartbeats 4000000 in
theorem lc_15 {E : jv_E} {N : Nat} {xs : Nat → Int32} (hl0 : (jv_l E).stackTraces = false) (hE : jv_Cx E RL cL_law 7 21) (hR : jv_rc E 1) (hS : jv_Sc E N xs) {v4 : Int32} {σ τ : jv_S} (h : f_L_case15 N xs v4 σ = some τ) (hk : jv_V (jv_E1 E) 1620 [some (.ref 62), some (.ref 0), some (.ref 35), some (.ref 61), some (.int v4), none, none] [] τ) : jv_V E 884 [some (.ref 62), some (.ref 0), some (.ref 35), some (.ref 61), some (.int v4), none, none] [] σ := by
  unfold f_L_case15 at h
  refine jv_aload_n (x := 0) (pc' := 885) hE dL_law_884 rfl 1 rfl rfl ?_
  refine jv_aload_n (x := 62) (pc' := 886) hE dL_law_885 rfl 0 rfl rfl ?_
  refine jv_iload (x := v4) (pc' := 888) hE dL_law_886 rfl rfl ?_
  refine jv_iconst (v := (1 : Int32)) (pc' := 889) hE dL_law_888 rfl (by decide) ?_
  refine jv_iadd (x := v4) (y := (1 : Int32)) (pc' := 890) hE dL_law_889 rfl ?_
  by_cases c1 : jv_ck (v4 + (1 : Int32)) N = true
  · rw [if_pos c1] at h
    refine jv_sld (pc' := 891) hE hS dL_law_890 rfl (jv_ck_in c1) ?_
    show jv_V E 891 [some (.ref 62), some (.ref 0), some (.ref 35), some (.ref 61), some (.int v4), none, none] [.int (xs (v4 + (1 : Int32)).toNatClampNeg), .ref 0] σ
    refine jv_aload_n (x := 62) (pc' := 892) hE dL_law_891 rfl 0 rfl rfl ?_
    refine jv_iload (x := v4) (pc' := 894) hE dL_law_892 rfl rfl ?_
    refine jv_iconst (v := (2 : Int32)) (pc' := 895) hE dL_law_894 rfl (by decide) ?_
    refine jv_iadd (x := v4) (y := (2 : Int32)) (pc' := 896) hE dL_law_895 rfl ?_
    by_cases c2 : jv_ck (v4 + (2 : Int32)) N = true
    · rw [if_pos c2] at h
      refine jv_sld (pc' := 897) hE hS dL_law_896 rfl (jv_ck_in c2) ?_
      show jv_V E 897 [some (.ref 62), some (.ref 0), some (.ref 35), some (.ref 61), some (.int v4), none, none] [.int (xs (v4 + (2 : Int32)).toNatClampNeg), .int (xs (v4 + (1 : Int32)).toNatClampNeg), .ref 0] σ
      refine jv_aload_n (x := 62) (pc' := 898) hE dL_law_897 rfl 0 rfl rfl ?_
      refine jv_iload (x := v4) (pc' := 900) hE dL_law_898 rfl rfl ?_
      refine jv_iconst (v := (3 : Int32)) (pc' := 901) hE dL_law_900 rfl (by decide) ?_
      refine jv_iadd (x := v4) (y := (3 : Int32)) (pc' := 902) hE dL_law_901 rfl ?_
      by_cases c3 : jv_ck (v4 + (3 : Int32)) N = true
      · rw [if_pos c3] at h
        refine jv_sld (pc' := 903) hE hS dL_law_902 rfl (jv_ck_in c3) ?_
        show jv_V E 903 [some (.ref 62), some (.ref 0), some (.ref 35), some (.ref 61), some (.int v4), none, none] [.int (xs (v4 + (3 : Int32)).toNatClampNeg), .int (xs (v4 + (2 : Int32)).toNatClampNeg), .int (xs (v4 + (1 : Int32)).toNatClampNeg), .ref 0] σ
        refine jv_aload_n (x := 61) (pc' := 904) hE dL_law_903 rfl 3 rfl rfl ?_
        obtain ⟨q4, hq4, h⟩ := jv_bd_some h
        refine jv_callW (pc' := 907) hE hR dL_law_904 rfl lK_L_157 (ok_L_countPaths hl0 hq4) rfl (by decide) rfl (Nat.le_of_ble_eq_true rfl) ?_
        show jv_V (jv_E1 E) 907 [some (.ref 62), some (.ref 0), some (.ref 35), some (.ref 61), some (.int v4), none, none] [.int q4.1] q4.2
        have hE := jv_Cx1 hE hR
        have hS := jv_Sc1 hS
        refine jv_istore (x := q4.1) (L' := [some (.ref 62), some (.ref 0), some (.ref 35), some (.ref 61), some (.int v4), some (.int q4.1), none]) (pc' := 909) hE dL_law_907 rfl (by decide) rfl rfl ?_
        refine jv_aload_n (x := 35) (pc' := 910) hE dL_law_909 rfl 2 rfl rfl ?_
        refine jv_aload_n (x := 62) (pc' := 911) hE dL_law_910 rfl 0 rfl rfl ?_
        refine jv_iload (x := v4) (pc' := 913) hE dL_law_911 rfl rfl ?_
        refine jv_iconst (v := (1 : Int32)) (pc' := 914) hE dL_law_913 rfl (by decide) ?_
        refine jv_iadd (x := v4) (y := (1 : Int32)) (pc' := 915) hE dL_law_914 rfl ?_
        by_cases c5 : jv_ck (v4 + (1 : Int32)) N = true
        · rw [if_pos c5] at h
          refine jv_sld (pc' := 916) hE hS dL_law_915 rfl (jv_ck_in c5) ?_
          show jv_V (jv_E1 E) 916 [some (.ref 62), some (.ref 0), some (.ref 35), some (.ref 61), some (.int v4), some (.int q4.1), none] [.int (xs (v4 + (1 : Int32)).toNatClampNeg), .ref 35] q4.2
          refine jv_aload_n (x := 62) (pc' := 917) hE dL_law_916 rfl 0 rfl rfl ?_
          refine jv_iload (x := v4) (pc' := 919) hE dL_law_917 rfl rfl ?_
          refine jv_iconst (v := (2 : Int32)) (pc' := 920) hE dL_law_919 rfl (by decide) ?_
          refine jv_iadd (x := v4) (y := (2 : Int32)) (pc' := 921) hE dL_law_920 rfl ?_
          by_cases c6 : jv_ck (v4 + (2 : Int32)) N = true
          · rw [if_pos c6] at h
            refine jv_sld (pc' := 922) hE hS dL_law_921 rfl (jv_ck_in c6) ?_
            show jv_V (jv_E1 E) 922 [some (.ref 62), some (.ref 0), some (.ref 35), some (.ref 61), some (.int v4), some (.int q4.1), none] [.int (xs (v4 + (2 : Int32)).toNatClampNeg), .int (xs (v4 + (1 : Int32)).toNatClampNeg), .ref 35] q4.2
            refine jv_aload_n (x := 62) (pc' := 923) hE dL_law_922 rfl 0 rfl rfl ?_
            refine jv_iload (x := v4) (pc' := 925) hE dL_law_923 rfl rfl ?_
            refine jv_iconst (v := (3 : Int32)) (pc' := 926) hE dL_law_925 rfl (by decide) ?_
            refine jv_iadd (x := v4) (y := (3 : Int32)) (pc' := 927) hE dL_law_926 rfl ?_
            by_cases c7 : jv_ck (v4 + (3 : Int32)) N = true
            · rw [if_pos c7] at h
              refine jv_sld (pc' := 928) hE hS dL_law_927 rfl (jv_ck_in c7) ?_
              show jv_V (jv_E1 E) 928 [some (.ref 62), some (.ref 0), some (.ref 35), some (.ref 61), some (.int v4), some (.int q4.1), none] [.int (xs (v4 + (3 : Int32)).toNatClampNeg), .int (xs (v4 + (2 : Int32)).toNatClampNeg), .int (xs (v4 + (1 : Int32)).toNatClampNeg), .ref 35] q4.2
              obtain ⟨q8, hq8, h⟩ := jv_bd_some h
              refine jv_callV (pc' := 931) (o := some (.int q8.1)) (σ' := q8.2) hE dL_law_928 rfl lV_L_159 (ok_X8_countPaths hq8) rfl rfl rfl (by decide) rfl (Nat.le_of_ble_eq_true rfl) ?_
              show jv_V (jv_E1 E) 931 [some (.ref 62), some (.ref 0), some (.ref 35), some (.ref 61), some (.int v4), some (.int q4.1), none] [.int q8.1] q8.2
              refine jv_istore (x := q8.1) (L' := [some (.ref 62), some (.ref 0), some (.ref 35), some (.ref 61), some (.int v4), some (.int q4.1), some (.int q8.1)]) (pc' := 933) hE dL_law_931 rfl (by decide) rfl rfl ?_
              refine jv_aload_n (x := 35) (pc' := 934) hE dL_law_933 rfl 2 rfl rfl ?_
              refine jv_callV (pc' := 937) (o := some (.int (f_X8_thrown q8.2))) (σ' := q8.2) hE dL_law_934 rfl lV_L_104 (ok_X8_thrown rfl) rfl rfl rfl (by decide) rfl (Nat.le_of_ble_eq_true rfl) ?_
              show jv_V (jv_E1 E) 937 [some (.ref 62), some (.ref 0), some (.ref 35), some (.ref 61), some (.int v4), some (.int q4.1), some (.int q8.1)] [.int (f_X8_thrown q8.2)] q8.2
              refine jv_iload (x := q4.1) (pc' := 939) hE dL_law_937 rfl rfl ?_
              refine jv_icmp_eq (x := (f_X8_thrown q8.2)) (y := q4.1) (tgt := 944) (pc' := 942) hE dL_law_939 (by decide) rfl (fun c9 => ?_) (fun c9 => ?_)
              · rw [if_pos c9] at h
                refine jv_iload (x := q4.1) (pc' := 946) hE dL_law_944 rfl rfl ?_
                refine jv_if_ne (x := q4.1) (tgt := 961) (pc' := 949) hE dL_law_946 (by decide) rfl (fun c10 => ?_) (fun c10 => ?_)
                · rw [if_neg c10] at h
                  refine jv_goto (tgt := 1620) hE dL_law_961 (by decide) ?_
                  cases h
                  exact jv_forget [true, true, true, true, true, false, false] hk
                · rw [if_pos c10] at h
                  refine jv_aload_n (x := 61) (pc' := 950) hE dL_law_949 rfl 3 rfl rfl ?_
                  refine jv_iconst (v := (0 : Int32)) (pc' := 951) hE dL_law_950 rfl (by decide) ?_
                  by_cases c11 : jv_ck (0 : Int32) 1 = true
                  · rw [if_pos c11] at h
                    refine jv_lald (pc' := 952) hE dL_law_951 rfl rfl (jv_ck_in c11) ?_
                    show jv_V (jv_E1 E) 952 [some (.ref 62), some (.ref 0), some (.ref 35), some (.ref 61), some (.int v4), some (.int q4.1), some (.int q8.1)] [.long (q8.2.2 61 (0 : Int32).toNatClampNeg)] q8.2
                    refine jv_iload (x := q8.1) (pc' := 954) hE dL_law_952 rfl rfl ?_
                    refine jv_i2l (x := q8.1) (pc' := 955) hE dL_law_954 rfl ?_
                    refine jv_lcmp (x := (q8.2.2 61 (0 : Int32).toNatClampNeg)) (y := q8.1.toInt64) (pc' := 956) hE dL_law_955 rfl ?_
                    refine jv_if_eq (x := (lg_cmp (q8.2.2 61 (0 : Int32).toNatClampNeg) q8.1.toInt64)) (tgt := 961) (pc' := 959) hE dL_law_956 (by decide) rfl (fun c12 => ?_) (fun c12 => ?_)
                    · rw [if_pos c12] at h
                      refine jv_goto (tgt := 1620) hE dL_law_961 (by decide) ?_
                      cases h
                      exact jv_forget [true, true, true, true, true, false, false] hk
                    · rw [if_neg c12] at h
                      refine jv_iconst (v := (0 : Int32)) (pc' := 960) hE dL_law_959 rfl (by decide) ?_
                      cases h
                  · rw [if_neg c11] at h; cases h
              · rw [if_neg c9] at h
                refine jv_iconst (v := (0 : Int32)) (pc' := 943) hE dL_law_942 rfl (by decide) ?_
                cases h
            · rw [if_neg c7] at h; cases h
          · rw [if_neg c6] at h; cases h
        · rw [if_neg c5] at h; cases h
      · rw [if_neg c3] at h; cases h
    · rw [if_neg c2] at h; cases h
  · rw [if_neg c1] at h; cases h
noncomputable def f_L_case16 (N : Nat) (xs : Nat → Int32) (v4 : Int32) (σ : jv_S) : Option jv_S := if jv_ck (v4 + (1 : Int32)) N = true then (if jv_ck (v4 + (2 : Int32)) N = true then (jv_bd (f_L_startWalks σ (xs (v4 + (1 : Int32)).toNatClampNeg) (xs (v4 + (2 : Int32)).toNatClampNeg)) (fun q3 => if jv_ck (v4 + (1 : Int32)) N = true then (if jv_ck (v4 + (2 : Int32)) N = true then (jv_bd (f_X8_startWalks q3.2 (xs (v4 + (1 : Int32)).toNatClampNeg) (xs (v4 + (2 : Int32)).toNatClampNeg)) (fun q6 => if (f_X8_thrown q6) = q3.1 then (some q6) else (none))) else none) else none)) else none) else none
set_option maxRecDepth 100000 in
set_option maxHeartbeats 4000000 in
theorem lc_16 {E : jv_E} {N : Nat} {xs : Nat → Int32} (hl0 : (jv_l E).stackTraces = false) (hE : jv_Cx E RL cL_law 7 21) (hR : jv_rc E 1) (hS : jv_Sc E N xs) {v4 : Int32} {σ τ : jv_S} (h : f_L_case16 N xs v4 σ = some τ) (hk : jv_V (jv_E1 E) 1620 [some (.ref 62), some (.ref 0), some (.ref 35), some (.ref 61), some (.int v4), none, none] [] τ) : jv_V E 964 [some (.ref 62), some (.ref 0), some (.ref 35), some (.ref 61), some (.int v4), none, none] [] σ := by
  unfold f_L_case16 at h
  refine jv_aload_n (x := 0) (pc' := 965) hE dL_law_964 rfl 1 rfl rfl ?_
  refine jv_aload_n (x := 62) (pc' := 966) hE dL_law_965 rfl 0 rfl rfl ?_
  refine jv_iload (x := v4) (pc' := 968) hE dL_law_966 rfl rfl ?_
  refine jv_iconst (v := (1 : Int32)) (pc' := 969) hE dL_law_968 rfl (by decide) ?_
  refine jv_iadd (x := v4) (y := (1 : Int32)) (pc' := 970) hE dL_law_969 rfl ?_
  by_cases c1 : jv_ck (v4 + (1 : Int32)) N = true
  · rw [if_pos c1] at h
    refine jv_sld (pc' := 971) hE hS dL_law_970 rfl (jv_ck_in c1) ?_
    show jv_V E 971 [some (.ref 62), some (.ref 0), some (.ref 35), some (.ref 61), some (.int v4), none, none] [.int (xs (v4 + (1 : Int32)).toNatClampNeg), .ref 0] σ
    refine jv_aload_n (x := 62) (pc' := 972) hE dL_law_971 rfl 0 rfl rfl ?_
    refine jv_iload (x := v4) (pc' := 974) hE dL_law_972 rfl rfl ?_
    refine jv_iconst (v := (2 : Int32)) (pc' := 975) hE dL_law_974 rfl (by decide) ?_
    refine jv_iadd (x := v4) (y := (2 : Int32)) (pc' := 976) hE dL_law_975 rfl ?_
    by_cases c2 : jv_ck (v4 + (2 : Int32)) N = true
    · rw [if_pos c2] at h
      refine jv_sld (pc' := 977) hE hS dL_law_976 rfl (jv_ck_in c2) ?_
      show jv_V E 977 [some (.ref 62), some (.ref 0), some (.ref 35), some (.ref 61), some (.int v4), none, none] [.int (xs (v4 + (2 : Int32)).toNatClampNeg), .int (xs (v4 + (1 : Int32)).toNatClampNeg), .ref 0] σ
      obtain ⟨q3, hq3, h⟩ := jv_bd_some h
      refine jv_callW (pc' := 980) hE hR dL_law_977 rfl lK_L_160 (ok_L_startWalks hl0 hq3) rfl (by decide) rfl (Nat.le_of_ble_eq_true rfl) ?_
      show jv_V (jv_E1 E) 980 [some (.ref 62), some (.ref 0), some (.ref 35), some (.ref 61), some (.int v4), none, none] [.int q3.1] q3.2
      have hE := jv_Cx1 hE hR
      have hS := jv_Sc1 hS
      refine jv_istore (x := q3.1) (L' := [some (.ref 62), some (.ref 0), some (.ref 35), some (.ref 61), some (.int v4), some (.int q3.1), none]) (pc' := 982) hE dL_law_980 rfl (by decide) rfl rfl ?_
      refine jv_aload_n (x := 35) (pc' := 983) hE dL_law_982 rfl 2 rfl rfl ?_
      refine jv_aload_n (x := 62) (pc' := 984) hE dL_law_983 rfl 0 rfl rfl ?_
      refine jv_iload (x := v4) (pc' := 986) hE dL_law_984 rfl rfl ?_
      refine jv_iconst (v := (1 : Int32)) (pc' := 987) hE dL_law_986 rfl (by decide) ?_
      refine jv_iadd (x := v4) (y := (1 : Int32)) (pc' := 988) hE dL_law_987 rfl ?_
      by_cases c4 : jv_ck (v4 + (1 : Int32)) N = true
      · rw [if_pos c4] at h
        refine jv_sld (pc' := 989) hE hS dL_law_988 rfl (jv_ck_in c4) ?_
        show jv_V (jv_E1 E) 989 [some (.ref 62), some (.ref 0), some (.ref 35), some (.ref 61), some (.int v4), some (.int q3.1), none] [.int (xs (v4 + (1 : Int32)).toNatClampNeg), .ref 35] q3.2
        refine jv_aload_n (x := 62) (pc' := 990) hE dL_law_989 rfl 0 rfl rfl ?_
        refine jv_iload (x := v4) (pc' := 992) hE dL_law_990 rfl rfl ?_
        refine jv_iconst (v := (2 : Int32)) (pc' := 993) hE dL_law_992 rfl (by decide) ?_
        refine jv_iadd (x := v4) (y := (2 : Int32)) (pc' := 994) hE dL_law_993 rfl ?_
        by_cases c5 : jv_ck (v4 + (2 : Int32)) N = true
        · rw [if_pos c5] at h
          refine jv_sld (pc' := 995) hE hS dL_law_994 rfl (jv_ck_in c5) ?_
          show jv_V (jv_E1 E) 995 [some (.ref 62), some (.ref 0), some (.ref 35), some (.ref 61), some (.int v4), some (.int q3.1), none] [.int (xs (v4 + (2 : Int32)).toNatClampNeg), .int (xs (v4 + (1 : Int32)).toNatClampNeg), .ref 35] q3.2
          obtain ⟨q6, hq6, h⟩ := jv_bd_some h
          refine jv_callV (pc' := 998) (o := none) (σ' := q6) hE dL_law_995 rfl lV_L_162 (ok_X8_startWalks hq6) rfl rfl rfl (by decide) rfl (Nat.le_of_ble_eq_true rfl) ?_
          show jv_V (jv_E1 E) 998 [some (.ref 62), some (.ref 0), some (.ref 35), some (.ref 61), some (.int v4), some (.int q3.1), none] [] q6
          refine jv_aload_n (x := 35) (pc' := 999) hE dL_law_998 rfl 2 rfl rfl ?_
          refine jv_callV (pc' := 1002) (o := some (.int (f_X8_thrown q6))) (σ' := q6) hE dL_law_999 rfl lV_L_104 (ok_X8_thrown rfl) rfl rfl rfl (by decide) rfl (Nat.le_of_ble_eq_true rfl) ?_
          show jv_V (jv_E1 E) 1002 [some (.ref 62), some (.ref 0), some (.ref 35), some (.ref 61), some (.int v4), some (.int q3.1), none] [.int (f_X8_thrown q6)] q6
          refine jv_iload (x := q3.1) (pc' := 1004) hE dL_law_1002 rfl rfl ?_
          refine jv_icmp_eq (x := (f_X8_thrown q6)) (y := q3.1) (tgt := 1009) (pc' := 1007) hE dL_law_1004 (by decide) rfl (fun c7 => ?_) (fun c7 => ?_)
          · rw [if_pos c7] at h
            refine jv_goto (tgt := 1620) hE dL_law_1009 (by decide) ?_
            cases h
            exact jv_forget [true, true, true, true, true, false, false] hk
          · rw [if_neg c7] at h
            refine jv_iconst (v := (0 : Int32)) (pc' := 1008) hE dL_law_1007 rfl (by decide) ?_
            cases h
        · rw [if_neg c5] at h; cases h
      · rw [if_neg c4] at h; cases h
    · rw [if_neg c2] at h; cases h
  · rw [if_neg c1] at h; cases h
noncomputable def f_L_case17 (N : Nat) (xs : Nat → Int32) (v4 : Int32) (σ : jv_S) : Option jv_S := jv_bd (f_L_nextWalk σ) (fun q1 => jv_bd (f_X8_nextWalk q1.2) (fun q2 => if (f_X8_thrown q2.2) = q1.1 then (if q1.1 = 0 then (if jv_ck (0 : Int32) 1 = true then (if (lg_cmp (q2.2.2 61 (0 : Int32).toNatClampNeg) q2.1.toInt64) = 0 then (some q2.2) else (none)) else none) else (some q2.2)) else (none)))
set_option maxRecDepth 100000 in
set_option maxHeartbeats 4000000 in
theorem lc_17 {E : jv_E} {N : Nat} {xs : Nat → Int32} (hl0 : (jv_l E).stackTraces = false) (hE : jv_Cx E RL cL_law 7 21) (hR : jv_rc E 1) (hS : jv_Sc E N xs) {v4 : Int32} {σ τ : jv_S} (h : f_L_case17 N xs v4 σ = some τ) (hk : jv_V (jv_E1 E) 1620 [some (.ref 62), some (.ref 0), some (.ref 35), some (.ref 61), some (.int v4), none, none] [] τ) : jv_V E 1012 [some (.ref 62), some (.ref 0), some (.ref 35), some (.ref 61), some (.int v4), none, none] [] σ := by
  unfold f_L_case17 at h
  refine jv_aload_n (x := 0) (pc' := 1013) hE dL_law_1012 rfl 1 rfl rfl ?_
  refine jv_aload_n (x := 61) (pc' := 1014) hE dL_law_1013 rfl 3 rfl rfl ?_
  obtain ⟨q1, hq1, h⟩ := jv_bd_some h
  refine jv_callW (pc' := 1017) hE hR dL_law_1014 rfl lK_L_163 (ok_L_nextWalk hl0 hq1) rfl (by decide) rfl (Nat.le_of_ble_eq_true rfl) ?_
  show jv_V (jv_E1 E) 1017 [some (.ref 62), some (.ref 0), some (.ref 35), some (.ref 61), some (.int v4), none, none] [.int q1.1] q1.2
  have hE := jv_Cx1 hE hR
  have hS := jv_Sc1 hS
  refine jv_istore (x := q1.1) (L' := [some (.ref 62), some (.ref 0), some (.ref 35), some (.ref 61), some (.int v4), some (.int q1.1), none]) (pc' := 1019) hE dL_law_1017 rfl (by decide) rfl rfl ?_
  refine jv_aload_n (x := 35) (pc' := 1020) hE dL_law_1019 rfl 2 rfl rfl ?_
  obtain ⟨q2, hq2, h⟩ := jv_bd_some h
  refine jv_callV (pc' := 1023) (o := some (.int q2.1)) (σ' := q2.2) hE dL_law_1020 rfl lV_L_165 (ok_X8_nextWalk hq2) rfl rfl rfl (by decide) rfl (Nat.le_of_ble_eq_true rfl) ?_
  show jv_V (jv_E1 E) 1023 [some (.ref 62), some (.ref 0), some (.ref 35), some (.ref 61), some (.int v4), some (.int q1.1), none] [.int q2.1] q2.2
  refine jv_istore (x := q2.1) (L' := [some (.ref 62), some (.ref 0), some (.ref 35), some (.ref 61), some (.int v4), some (.int q1.1), some (.int q2.1)]) (pc' := 1025) hE dL_law_1023 rfl (by decide) rfl rfl ?_
  refine jv_aload_n (x := 35) (pc' := 1026) hE dL_law_1025 rfl 2 rfl rfl ?_
  refine jv_callV (pc' := 1029) (o := some (.int (f_X8_thrown q2.2))) (σ' := q2.2) hE dL_law_1026 rfl lV_L_104 (ok_X8_thrown rfl) rfl rfl rfl (by decide) rfl (Nat.le_of_ble_eq_true rfl) ?_
  show jv_V (jv_E1 E) 1029 [some (.ref 62), some (.ref 0), some (.ref 35), some (.ref 61), some (.int v4), some (.int q1.1), some (.int q2.1)] [.int (f_X8_thrown q2.2)] q2.2
  refine jv_iload (x := q1.1) (pc' := 1031) hE dL_law_1029 rfl rfl ?_
  refine jv_icmp_eq (x := (f_X8_thrown q2.2)) (y := q1.1) (tgt := 1036) (pc' := 1034) hE dL_law_1031 (by decide) rfl (fun c3 => ?_) (fun c3 => ?_)
  · rw [if_pos c3] at h
    refine jv_iload (x := q1.1) (pc' := 1038) hE dL_law_1036 rfl rfl ?_
    refine jv_if_ne (x := q1.1) (tgt := 1053) (pc' := 1041) hE dL_law_1038 (by decide) rfl (fun c4 => ?_) (fun c4 => ?_)
    · rw [if_neg c4] at h
      refine jv_goto (tgt := 1620) hE dL_law_1053 (by decide) ?_
      cases h
      exact jv_forget [true, true, true, true, true, false, false] hk
    · rw [if_pos c4] at h
      refine jv_aload_n (x := 61) (pc' := 1042) hE dL_law_1041 rfl 3 rfl rfl ?_
      refine jv_iconst (v := (0 : Int32)) (pc' := 1043) hE dL_law_1042 rfl (by decide) ?_
      by_cases c5 : jv_ck (0 : Int32) 1 = true
      · rw [if_pos c5] at h
        refine jv_lald (pc' := 1044) hE dL_law_1043 rfl rfl (jv_ck_in c5) ?_
        show jv_V (jv_E1 E) 1044 [some (.ref 62), some (.ref 0), some (.ref 35), some (.ref 61), some (.int v4), some (.int q1.1), some (.int q2.1)] [.long (q2.2.2 61 (0 : Int32).toNatClampNeg)] q2.2
        refine jv_iload (x := q2.1) (pc' := 1046) hE dL_law_1044 rfl rfl ?_
        refine jv_i2l (x := q2.1) (pc' := 1047) hE dL_law_1046 rfl ?_
        refine jv_lcmp (x := (q2.2.2 61 (0 : Int32).toNatClampNeg)) (y := q2.1.toInt64) (pc' := 1048) hE dL_law_1047 rfl ?_
        refine jv_if_eq (x := (lg_cmp (q2.2.2 61 (0 : Int32).toNatClampNeg) q2.1.toInt64)) (tgt := 1053) (pc' := 1051) hE dL_law_1048 (by decide) rfl (fun c6 => ?_) (fun c6 => ?_)
        · rw [if_pos c6] at h
          refine jv_goto (tgt := 1620) hE dL_law_1053 (by decide) ?_
          cases h
          exact jv_forget [true, true, true, true, true, false, false] hk
        · rw [if_neg c6] at h
          refine jv_iconst (v := (0 : Int32)) (pc' := 1052) hE dL_law_1051 rfl (by decide) ?_
          cases h
      · rw [if_neg c5] at h; cases h
  · rw [if_neg c3] at h
    refine jv_iconst (v := (0 : Int32)) (pc' := 1035) hE dL_law_1034 rfl (by decide) ?_
    cases h
noncomputable def f_L_case18 (N : Nat) (xs : Nat → Int32) (v4 : Int32) (σ : jv_S) : Option jv_S := jv_bd (f_L_walksDrawn σ) (fun q1 => jv_lt (f_X8_walksDrawn q1.2) (fun q2 => if (f_X8_thrown q2.2) = q1.1 then (if q1.1 = 0 then (if jv_ck (0 : Int32) 1 = true then (if (lg_cmp (q2.2.2 61 (0 : Int32).toNatClampNeg) q2.1.toInt64) = 0 then (some q2.2) else (none)) else none) else (some q2.2)) else (none)))
set_option maxRecDepth 100000 in
set_option maxHeartbeats 4000000 in
theorem lc_18 {E : jv_E} {N : Nat} {xs : Nat → Int32} (hl0 : (jv_l E).stackTraces = false) (hE : jv_Cx E RL cL_law 7 21) (hR : jv_rc E 1) (hS : jv_Sc E N xs) {v4 : Int32} {σ τ : jv_S} (h : f_L_case18 N xs v4 σ = some τ) (hk : jv_V (jv_E1 E) 1620 [some (.ref 62), some (.ref 0), some (.ref 35), some (.ref 61), some (.int v4), none, none] [] τ) : jv_V E 1056 [some (.ref 62), some (.ref 0), some (.ref 35), some (.ref 61), some (.int v4), none, none] [] σ := by
  unfold f_L_case18 at h
  refine jv_aload_n (x := 0) (pc' := 1057) hE dL_law_1056 rfl 1 rfl rfl ?_
  refine jv_aload_n (x := 61) (pc' := 1058) hE dL_law_1057 rfl 3 rfl rfl ?_
  obtain ⟨q1, hq1, h⟩ := jv_bd_some h
  refine jv_callW (pc' := 1061) hE hR dL_law_1058 rfl lK_L_166 (ok_L_walksDrawn hl0 hq1) rfl (by decide) rfl (Nat.le_of_ble_eq_true rfl) ?_
  show jv_V (jv_E1 E) 1061 [some (.ref 62), some (.ref 0), some (.ref 35), some (.ref 61), some (.int v4), none, none] [.int q1.1] q1.2
  have hE := jv_Cx1 hE hR
  have hS := jv_Sc1 hS
  refine jv_istore (x := q1.1) (L' := [some (.ref 62), some (.ref 0), some (.ref 35), some (.ref 61), some (.int v4), some (.int q1.1), none]) (pc' := 1063) hE dL_law_1061 rfl (by decide) rfl rfl ?_
  refine jv_aload_n (x := 35) (pc' := 1064) hE dL_law_1063 rfl 2 rfl rfl ?_
  obtain ⟨q2, hq2, h⟩ := jv_lt_eq h
  refine jv_callV (pc' := 1067) (o := some (.int q2.1)) (σ' := q2.2) hE dL_law_1064 rfl lV_L_168 (ok_X8_walksDrawn hq2) rfl rfl rfl (by decide) rfl (Nat.le_of_ble_eq_true rfl) ?_
  show jv_V (jv_E1 E) 1067 [some (.ref 62), some (.ref 0), some (.ref 35), some (.ref 61), some (.int v4), some (.int q1.1), none] [.int q2.1] q2.2
  refine jv_istore (x := q2.1) (L' := [some (.ref 62), some (.ref 0), some (.ref 35), some (.ref 61), some (.int v4), some (.int q1.1), some (.int q2.1)]) (pc' := 1069) hE dL_law_1067 rfl (by decide) rfl rfl ?_
  refine jv_aload_n (x := 35) (pc' := 1070) hE dL_law_1069 rfl 2 rfl rfl ?_
  refine jv_callV (pc' := 1073) (o := some (.int (f_X8_thrown q2.2))) (σ' := q2.2) hE dL_law_1070 rfl lV_L_104 (ok_X8_thrown rfl) rfl rfl rfl (by decide) rfl (Nat.le_of_ble_eq_true rfl) ?_
  show jv_V (jv_E1 E) 1073 [some (.ref 62), some (.ref 0), some (.ref 35), some (.ref 61), some (.int v4), some (.int q1.1), some (.int q2.1)] [.int (f_X8_thrown q2.2)] q2.2
  refine jv_iload (x := q1.1) (pc' := 1075) hE dL_law_1073 rfl rfl ?_
  refine jv_icmp_eq (x := (f_X8_thrown q2.2)) (y := q1.1) (tgt := 1080) (pc' := 1078) hE dL_law_1075 (by decide) rfl (fun c3 => ?_) (fun c3 => ?_)
  · rw [if_pos c3] at h
    refine jv_iload (x := q1.1) (pc' := 1082) hE dL_law_1080 rfl rfl ?_
    refine jv_if_ne (x := q1.1) (tgt := 1097) (pc' := 1085) hE dL_law_1082 (by decide) rfl (fun c4 => ?_) (fun c4 => ?_)
    · rw [if_neg c4] at h
      refine jv_goto (tgt := 1620) hE dL_law_1097 (by decide) ?_
      cases h
      exact jv_forget [true, true, true, true, true, false, false] hk
    · rw [if_pos c4] at h
      refine jv_aload_n (x := 61) (pc' := 1086) hE dL_law_1085 rfl 3 rfl rfl ?_
      refine jv_iconst (v := (0 : Int32)) (pc' := 1087) hE dL_law_1086 rfl (by decide) ?_
      by_cases c5 : jv_ck (0 : Int32) 1 = true
      · rw [if_pos c5] at h
        refine jv_lald (pc' := 1088) hE dL_law_1087 rfl rfl (jv_ck_in c5) ?_
        show jv_V (jv_E1 E) 1088 [some (.ref 62), some (.ref 0), some (.ref 35), some (.ref 61), some (.int v4), some (.int q1.1), some (.int q2.1)] [.long (q2.2.2 61 (0 : Int32).toNatClampNeg)] q2.2
        refine jv_iload (x := q2.1) (pc' := 1090) hE dL_law_1088 rfl rfl ?_
        refine jv_i2l (x := q2.1) (pc' := 1091) hE dL_law_1090 rfl ?_
        refine jv_lcmp (x := (q2.2.2 61 (0 : Int32).toNatClampNeg)) (y := q2.1.toInt64) (pc' := 1092) hE dL_law_1091 rfl ?_
        refine jv_if_eq (x := (lg_cmp (q2.2.2 61 (0 : Int32).toNatClampNeg) q2.1.toInt64)) (tgt := 1097) (pc' := 1095) hE dL_law_1092 (by decide) rfl (fun c6 => ?_) (fun c6 => ?_)
        · rw [if_pos c6] at h
          refine jv_goto (tgt := 1620) hE dL_law_1097 (by decide) ?_
          cases h
          exact jv_forget [true, true, true, true, true, false, false] hk
        · rw [if_neg c6] at h
          refine jv_iconst (v := (0 : Int32)) (pc' := 1096) hE dL_law_1095 rfl (by decide) ?_
          cases h
      · rw [if_neg c5] at h; cases h
  · rw [if_neg c3] at h
    refine jv_iconst (v := (0 : Int32)) (pc' := 1079) hE dL_law_1078 rfl (by decide) ?_
    cases h
noncomputable def f_L_case19 (N : Nat) (xs : Nat → Int32) (v4 : Int32) (σ : jv_S) : Option jv_S := jv_bd (f_L_walkEdges σ) (fun q1 => jv_lt (f_X8_walkEdges q1.2) (fun q2 => if (f_X8_thrown q2.2) = q1.1 then (if q1.1 = 0 then (if jv_ck (0 : Int32) 1 = true then (if (lg_cmp (q2.2.2 61 (0 : Int32).toNatClampNeg) q2.1.toInt64) = 0 then (some q2.2) else (none)) else none) else (some q2.2)) else (none)))
set_option maxRecDepth 100000 in
set_option maxHeartbeats 4000000 in
theorem lc_19 {E : jv_E} {N : Nat} {xs : Nat → Int32} (hl0 : (jv_l E).stackTraces = false) (hE : jv_Cx E RL cL_law 7 21) (hR : jv_rc E 1) (hS : jv_Sc E N xs) {v4 : Int32} {σ τ : jv_S} (h : f_L_case19 N xs v4 σ = some τ) (hk : jv_V (jv_E1 E) 1620 [some (.ref 62), some (.ref 0), some (.ref 35), some (.ref 61), some (.int v4), none, none] [] τ) : jv_V E 1100 [some (.ref 62), some (.ref 0), some (.ref 35), some (.ref 61), some (.int v4), none, none] [] σ := by
  unfold f_L_case19 at h
  refine jv_aload_n (x := 0) (pc' := 1101) hE dL_law_1100 rfl 1 rfl rfl ?_
  refine jv_aload_n (x := 61) (pc' := 1102) hE dL_law_1101 rfl 3 rfl rfl ?_
  obtain ⟨q1, hq1, h⟩ := jv_bd_some h
  refine jv_callW (pc' := 1105) hE hR dL_law_1102 rfl lK_L_169 (ok_L_walkEdges hl0 hq1) rfl (by decide) rfl (Nat.le_of_ble_eq_true rfl) ?_
  show jv_V (jv_E1 E) 1105 [some (.ref 62), some (.ref 0), some (.ref 35), some (.ref 61), some (.int v4), none, none] [.int q1.1] q1.2
  have hE := jv_Cx1 hE hR
  have hS := jv_Sc1 hS
  refine jv_istore (x := q1.1) (L' := [some (.ref 62), some (.ref 0), some (.ref 35), some (.ref 61), some (.int v4), some (.int q1.1), none]) (pc' := 1107) hE dL_law_1105 rfl (by decide) rfl rfl ?_
  refine jv_aload_n (x := 35) (pc' := 1108) hE dL_law_1107 rfl 2 rfl rfl ?_
  obtain ⟨q2, hq2, h⟩ := jv_lt_eq h
  refine jv_callV (pc' := 1111) (o := some (.int q2.1)) (σ' := q2.2) hE dL_law_1108 rfl lV_L_171 (ok_X8_walkEdges hq2) rfl rfl rfl (by decide) rfl (Nat.le_of_ble_eq_true rfl) ?_
  show jv_V (jv_E1 E) 1111 [some (.ref 62), some (.ref 0), some (.ref 35), some (.ref 61), some (.int v4), some (.int q1.1), none] [.int q2.1] q2.2
  refine jv_istore (x := q2.1) (L' := [some (.ref 62), some (.ref 0), some (.ref 35), some (.ref 61), some (.int v4), some (.int q1.1), some (.int q2.1)]) (pc' := 1113) hE dL_law_1111 rfl (by decide) rfl rfl ?_
  refine jv_aload_n (x := 35) (pc' := 1114) hE dL_law_1113 rfl 2 rfl rfl ?_
  refine jv_callV (pc' := 1117) (o := some (.int (f_X8_thrown q2.2))) (σ' := q2.2) hE dL_law_1114 rfl lV_L_104 (ok_X8_thrown rfl) rfl rfl rfl (by decide) rfl (Nat.le_of_ble_eq_true rfl) ?_
  show jv_V (jv_E1 E) 1117 [some (.ref 62), some (.ref 0), some (.ref 35), some (.ref 61), some (.int v4), some (.int q1.1), some (.int q2.1)] [.int (f_X8_thrown q2.2)] q2.2
  refine jv_iload (x := q1.1) (pc' := 1119) hE dL_law_1117 rfl rfl ?_
  refine jv_icmp_eq (x := (f_X8_thrown q2.2)) (y := q1.1) (tgt := 1124) (pc' := 1122) hE dL_law_1119 (by decide) rfl (fun c3 => ?_) (fun c3 => ?_)
  · rw [if_pos c3] at h
    refine jv_iload (x := q1.1) (pc' := 1126) hE dL_law_1124 rfl rfl ?_
    refine jv_if_ne (x := q1.1) (tgt := 1141) (pc' := 1129) hE dL_law_1126 (by decide) rfl (fun c4 => ?_) (fun c4 => ?_)
    · rw [if_neg c4] at h
      refine jv_goto (tgt := 1620) hE dL_law_1141 (by decide) ?_
      cases h
      exact jv_forget [true, true, true, true, true, false, false] hk
    · rw [if_pos c4] at h
      refine jv_aload_n (x := 61) (pc' := 1130) hE dL_law_1129 rfl 3 rfl rfl ?_
      refine jv_iconst (v := (0 : Int32)) (pc' := 1131) hE dL_law_1130 rfl (by decide) ?_
      by_cases c5 : jv_ck (0 : Int32) 1 = true
      · rw [if_pos c5] at h
        refine jv_lald (pc' := 1132) hE dL_law_1131 rfl rfl (jv_ck_in c5) ?_
        show jv_V (jv_E1 E) 1132 [some (.ref 62), some (.ref 0), some (.ref 35), some (.ref 61), some (.int v4), some (.int q1.1), some (.int q2.1)] [.long (q2.2.2 61 (0 : Int32).toNatClampNeg)] q2.2
        refine jv_iload (x := q2.1) (pc' := 1134) hE dL_law_1132 rfl rfl ?_
        refine jv_i2l (x := q2.1) (pc' := 1135) hE dL_law_1134 rfl ?_
        refine jv_lcmp (x := (q2.2.2 61 (0 : Int32).toNatClampNeg)) (y := q2.1.toInt64) (pc' := 1136) hE dL_law_1135 rfl ?_
        refine jv_if_eq (x := (lg_cmp (q2.2.2 61 (0 : Int32).toNatClampNeg) q2.1.toInt64)) (tgt := 1141) (pc' := 1139) hE dL_law_1136 (by decide) rfl (fun c6 => ?_) (fun c6 => ?_)
        · rw [if_pos c6] at h
          refine jv_goto (tgt := 1620) hE dL_law_1141 (by decide) ?_
          cases h
          exact jv_forget [true, true, true, true, true, false, false] hk
        · rw [if_neg c6] at h
          refine jv_iconst (v := (0 : Int32)) (pc' := 1140) hE dL_law_1139 rfl (by decide) ?_
          cases h
      · rw [if_neg c5] at h; cases h
  · rw [if_neg c3] at h
    refine jv_iconst (v := (0 : Int32)) (pc' := 1123) hE dL_law_1122 rfl (by decide) ?_
    cases h
noncomputable def f_L_case20 (N : Nat) (xs : Nat → Int32) (v4 : Int32) (σ : jv_S) : Option jv_S := if jv_ck (v4 + (1 : Int32)) N = true then (jv_bd (f_L_walkEdge σ (xs (v4 + (1 : Int32)).toNatClampNeg)) (fun q2 => if jv_ck (v4 + (1 : Int32)) N = true then (jv_bd (f_X8_walkEdge q2.2 (xs (v4 + (1 : Int32)).toNatClampNeg)) (fun q4 => if (f_X8_thrown q4.2) = q2.1 then (if q2.1 = 0 then (if jv_ck (0 : Int32) 1 = true then (if (lg_cmp (q4.2.2 61 (0 : Int32).toNatClampNeg) q4.1.toInt64) = 0 then (some q4.2) else (none)) else none) else (some q4.2)) else (none))) else none)) else none
set_option maxRecDepth 100000 in
set_option maxHeartbeats 4000000 in
theorem lc_20 {E : jv_E} {N : Nat} {xs : Nat → Int32} (hl0 : (jv_l E).stackTraces = false) (hE : jv_Cx E RL cL_law 7 21) (hR : jv_rc E 1) (hS : jv_Sc E N xs) {v4 : Int32} {σ τ : jv_S} (h : f_L_case20 N xs v4 σ = some τ) (hk : jv_V (jv_E1 E) 1620 [some (.ref 62), some (.ref 0), some (.ref 35), some (.ref 61), some (.int v4), none, none] [] τ) : jv_V E 1144 [some (.ref 62), some (.ref 0), some (.ref 35), some (.ref 61), some (.int v4), none, none] [] σ := by
  unfold f_L_case20 at h
  refine jv_aload_n (x := 0) (pc' := 1145) hE dL_law_1144 rfl 1 rfl rfl ?_
  refine jv_aload_n (x := 62) (pc' := 1146) hE dL_law_1145 rfl 0 rfl rfl ?_
  refine jv_iload (x := v4) (pc' := 1148) hE dL_law_1146 rfl rfl ?_
  refine jv_iconst (v := (1 : Int32)) (pc' := 1149) hE dL_law_1148 rfl (by decide) ?_
  refine jv_iadd (x := v4) (y := (1 : Int32)) (pc' := 1150) hE dL_law_1149 rfl ?_
  by_cases c1 : jv_ck (v4 + (1 : Int32)) N = true
  · rw [if_pos c1] at h
    refine jv_sld (pc' := 1151) hE hS dL_law_1150 rfl (jv_ck_in c1) ?_
    show jv_V E 1151 [some (.ref 62), some (.ref 0), some (.ref 35), some (.ref 61), some (.int v4), none, none] [.int (xs (v4 + (1 : Int32)).toNatClampNeg), .ref 0] σ
    refine jv_aload_n (x := 61) (pc' := 1152) hE dL_law_1151 rfl 3 rfl rfl ?_
    obtain ⟨q2, hq2, h⟩ := jv_bd_some h
    refine jv_callW (pc' := 1155) hE hR dL_law_1152 rfl lK_L_172 (ok_L_walkEdge hl0 hq2) rfl (by decide) rfl (Nat.le_of_ble_eq_true rfl) ?_
    show jv_V (jv_E1 E) 1155 [some (.ref 62), some (.ref 0), some (.ref 35), some (.ref 61), some (.int v4), none, none] [.int q2.1] q2.2
    have hE := jv_Cx1 hE hR
    have hS := jv_Sc1 hS
    refine jv_istore (x := q2.1) (L' := [some (.ref 62), some (.ref 0), some (.ref 35), some (.ref 61), some (.int v4), some (.int q2.1), none]) (pc' := 1157) hE dL_law_1155 rfl (by decide) rfl rfl ?_
    refine jv_aload_n (x := 35) (pc' := 1158) hE dL_law_1157 rfl 2 rfl rfl ?_
    refine jv_aload_n (x := 62) (pc' := 1159) hE dL_law_1158 rfl 0 rfl rfl ?_
    refine jv_iload (x := v4) (pc' := 1161) hE dL_law_1159 rfl rfl ?_
    refine jv_iconst (v := (1 : Int32)) (pc' := 1162) hE dL_law_1161 rfl (by decide) ?_
    refine jv_iadd (x := v4) (y := (1 : Int32)) (pc' := 1163) hE dL_law_1162 rfl ?_
    by_cases c3 : jv_ck (v4 + (1 : Int32)) N = true
    · rw [if_pos c3] at h
      refine jv_sld (pc' := 1164) hE hS dL_law_1163 rfl (jv_ck_in c3) ?_
      show jv_V (jv_E1 E) 1164 [some (.ref 62), some (.ref 0), some (.ref 35), some (.ref 61), some (.int v4), some (.int q2.1), none] [.int (xs (v4 + (1 : Int32)).toNatClampNeg), .ref 35] q2.2
      obtain ⟨q4, hq4, h⟩ := jv_bd_some h
      refine jv_callV (pc' := 1167) (o := some (.int q4.1)) (σ' := q4.2) hE dL_law_1164 rfl lV_L_174 (ok_X8_walkEdge hq4) rfl rfl rfl (by decide) rfl (Nat.le_of_ble_eq_true rfl) ?_
      show jv_V (jv_E1 E) 1167 [some (.ref 62), some (.ref 0), some (.ref 35), some (.ref 61), some (.int v4), some (.int q2.1), none] [.int q4.1] q4.2
      refine jv_istore (x := q4.1) (L' := [some (.ref 62), some (.ref 0), some (.ref 35), some (.ref 61), some (.int v4), some (.int q2.1), some (.int q4.1)]) (pc' := 1169) hE dL_law_1167 rfl (by decide) rfl rfl ?_
      refine jv_aload_n (x := 35) (pc' := 1170) hE dL_law_1169 rfl 2 rfl rfl ?_
      refine jv_callV (pc' := 1173) (o := some (.int (f_X8_thrown q4.2))) (σ' := q4.2) hE dL_law_1170 rfl lV_L_104 (ok_X8_thrown rfl) rfl rfl rfl (by decide) rfl (Nat.le_of_ble_eq_true rfl) ?_
      show jv_V (jv_E1 E) 1173 [some (.ref 62), some (.ref 0), some (.ref 35), some (.ref 61), some (.int v4), some (.int q2.1), some (.int q4.1)] [.int (f_X8_thrown q4.2)] q4.2
      refine jv_iload (x := q2.1) (pc' := 1175) hE dL_law_1173 rfl rfl ?_
      refine jv_icmp_eq (x := (f_X8_thrown q4.2)) (y := q2.1) (tgt := 1180) (pc' := 1178) hE dL_law_1175 (by decide) rfl (fun c5 => ?_) (fun c5 => ?_)
      · rw [if_pos c5] at h
        refine jv_iload (x := q2.1) (pc' := 1182) hE dL_law_1180 rfl rfl ?_
        refine jv_if_ne (x := q2.1) (tgt := 1197) (pc' := 1185) hE dL_law_1182 (by decide) rfl (fun c6 => ?_) (fun c6 => ?_)
        · rw [if_neg c6] at h
          refine jv_goto (tgt := 1620) hE dL_law_1197 (by decide) ?_
          cases h
          exact jv_forget [true, true, true, true, true, false, false] hk
        · rw [if_pos c6] at h
          refine jv_aload_n (x := 61) (pc' := 1186) hE dL_law_1185 rfl 3 rfl rfl ?_
          refine jv_iconst (v := (0 : Int32)) (pc' := 1187) hE dL_law_1186 rfl (by decide) ?_
          by_cases c7 : jv_ck (0 : Int32) 1 = true
          · rw [if_pos c7] at h
            refine jv_lald (pc' := 1188) hE dL_law_1187 rfl rfl (jv_ck_in c7) ?_
            show jv_V (jv_E1 E) 1188 [some (.ref 62), some (.ref 0), some (.ref 35), some (.ref 61), some (.int v4), some (.int q2.1), some (.int q4.1)] [.long (q4.2.2 61 (0 : Int32).toNatClampNeg)] q4.2
            refine jv_iload (x := q4.1) (pc' := 1190) hE dL_law_1188 rfl rfl ?_
            refine jv_i2l (x := q4.1) (pc' := 1191) hE dL_law_1190 rfl ?_
            refine jv_lcmp (x := (q4.2.2 61 (0 : Int32).toNatClampNeg)) (y := q4.1.toInt64) (pc' := 1192) hE dL_law_1191 rfl ?_
            refine jv_if_eq (x := (lg_cmp (q4.2.2 61 (0 : Int32).toNatClampNeg) q4.1.toInt64)) (tgt := 1197) (pc' := 1195) hE dL_law_1192 (by decide) rfl (fun c8 => ?_) (fun c8 => ?_)
            · rw [if_pos c8] at h
              refine jv_goto (tgt := 1620) hE dL_law_1197 (by decide) ?_
              cases h
              exact jv_forget [true, true, true, true, true, false, false] hk
            · rw [if_neg c8] at h
              refine jv_iconst (v := (0 : Int32)) (pc' := 1196) hE dL_law_1195 rfl (by decide) ?_
              cases h
          · rw [if_neg c7] at h; cases h
      · rw [if_neg c5] at h
        refine jv_iconst (v := (0 : Int32)) (pc' := 1179) hE dL_law_1178 rfl (by decide) ?_
        cases h
    · rw [if_neg c3] at h; cases h
  · rw [if_neg c1] at h; cases h
noncomputable def f_L_case21 (N : Nat) (xs : Nat → Int32) (v4 : Int32) (σ : jv_S) : Option jv_S := if jv_ck (v4 + (1 : Int32)) N = true then (if jv_ck (v4 + (2 : Int32)) N = true then (if jv_ck (v4 + (3 : Int32)) N = true then (jv_lt (if (xs (v4 + (3 : Int32)).toNatClampNeg) = 0 then (false) else (true)) (fun q5 => jv_bd (f_L_disjointPaths σ (xs (v4 + (1 : Int32)).toNatClampNeg) (xs (v4 + (2 : Int32)).toNatClampNeg) (jv_b q5)) (fun q6 => if jv_ck (v4 + (1 : Int32)) N = true then (if jv_ck (v4 + (2 : Int32)) N = true then (if jv_ck (v4 + (3 : Int32)) N = true then (jv_lt (if (xs (v4 + (3 : Int32)).toNatClampNeg) = 0 then (false) else (true)) (fun q11 => jv_bd (f_X8_disjointPaths q6.2 (xs (v4 + (1 : Int32)).toNatClampNeg) (xs (v4 + (2 : Int32)).toNatClampNeg) (jv_b q11)) (fun q12 => if (f_X8_thrown q12.2) = q6.1 then (if q6.1 = 0 then (if jv_ck (0 : Int32) 1 = true then (if (lg_cmp (q12.2.2 61 (0 : Int32).toNatClampNeg) q12.1.toInt64) = 0 then (some q12.2) else (none)) else none) else (some q12.2)) else (none)))) else none) else none) else none))) else none) else none) else none
set_option maxRecDepth 100000 in
set_option maxHeartbeats 4000000 in
theorem lc_21 {E : jv_E} {N : Nat} {xs : Nat → Int32} (hl0 : (jv_l E).stackTraces = false) (hE : jv_Cx E RL cL_law 7 21) (hR : jv_rc E 1) (hS : jv_Sc E N xs) {v4 : Int32} {σ τ : jv_S} (h : f_L_case21 N xs v4 σ = some τ) (hk : jv_V (jv_E1 E) 1620 [some (.ref 62), some (.ref 0), some (.ref 35), some (.ref 61), some (.int v4), none, none] [] τ) : jv_V E 1200 [some (.ref 62), some (.ref 0), some (.ref 35), some (.ref 61), some (.int v4), none, none] [] σ := by
  unfold f_L_case21 at h
  refine jv_aload_n (x := 0) (pc' := 1201) hE dL_law_1200 rfl 1 rfl rfl ?_
  refine jv_aload_n (x := 62) (pc' := 1202) hE dL_law_1201 rfl 0 rfl rfl ?_
  refine jv_iload (x := v4) (pc' := 1204) hE dL_law_1202 rfl rfl ?_
  refine jv_iconst (v := (1 : Int32)) (pc' := 1205) hE dL_law_1204 rfl (by decide) ?_
  refine jv_iadd (x := v4) (y := (1 : Int32)) (pc' := 1206) hE dL_law_1205 rfl ?_
  by_cases c1 : jv_ck (v4 + (1 : Int32)) N = true
  · rw [if_pos c1] at h
    refine jv_sld (pc' := 1207) hE hS dL_law_1206 rfl (jv_ck_in c1) ?_
    show jv_V E 1207 [some (.ref 62), some (.ref 0), some (.ref 35), some (.ref 61), some (.int v4), none, none] [.int (xs (v4 + (1 : Int32)).toNatClampNeg), .ref 0] σ
    refine jv_aload_n (x := 62) (pc' := 1208) hE dL_law_1207 rfl 0 rfl rfl ?_
    refine jv_iload (x := v4) (pc' := 1210) hE dL_law_1208 rfl rfl ?_
    refine jv_iconst (v := (2 : Int32)) (pc' := 1211) hE dL_law_1210 rfl (by decide) ?_
    refine jv_iadd (x := v4) (y := (2 : Int32)) (pc' := 1212) hE dL_law_1211 rfl ?_
    by_cases c2 : jv_ck (v4 + (2 : Int32)) N = true
    · rw [if_pos c2] at h
      refine jv_sld (pc' := 1213) hE hS dL_law_1212 rfl (jv_ck_in c2) ?_
      show jv_V E 1213 [some (.ref 62), some (.ref 0), some (.ref 35), some (.ref 61), some (.int v4), none, none] [.int (xs (v4 + (2 : Int32)).toNatClampNeg), .int (xs (v4 + (1 : Int32)).toNatClampNeg), .ref 0] σ
      refine jv_aload_n (x := 62) (pc' := 1214) hE dL_law_1213 rfl 0 rfl rfl ?_
      refine jv_iload (x := v4) (pc' := 1216) hE dL_law_1214 rfl rfl ?_
      refine jv_iconst (v := (3 : Int32)) (pc' := 1217) hE dL_law_1216 rfl (by decide) ?_
      refine jv_iadd (x := v4) (y := (3 : Int32)) (pc' := 1218) hE dL_law_1217 rfl ?_
      by_cases c3 : jv_ck (v4 + (3 : Int32)) N = true
      · rw [if_pos c3] at h
        refine jv_sld (pc' := 1219) hE hS dL_law_1218 rfl (jv_ck_in c3) ?_
        show jv_V E 1219 [some (.ref 62), some (.ref 0), some (.ref 35), some (.ref 61), some (.int v4), none, none] [.int (xs (v4 + (3 : Int32)).toNatClampNeg), .int (xs (v4 + (2 : Int32)).toNatClampNeg), .int (xs (v4 + (1 : Int32)).toNatClampNeg), .ref 0] σ
        obtain ⟨q5, hq5, h⟩ := jv_lt_eq h
        have kq5 : jv_V E 1227 [some (.ref 62), some (.ref 0), some (.ref 35), some (.ref 61), some (.int v4), none, none] [.int (jv_b q5), .int (xs (v4 + (2 : Int32)).toNatClampNeg), .int (xs (v4 + (1 : Int32)).toNatClampNeg), .ref 0] σ := by
          refine jv_aload_n (x := 61) (pc' := 1228) hE dL_law_1227 rfl 3 rfl rfl ?_
          obtain ⟨q6, hq6, h⟩ := jv_bd_some h
          refine jv_callW (pc' := 1231) hE hR dL_law_1228 rfl lK_L_175 (ok_L_disjointPaths hl0 hq6) rfl (by decide) rfl (Nat.le_of_ble_eq_true rfl) ?_
          show jv_V (jv_E1 E) 1231 [some (.ref 62), some (.ref 0), some (.ref 35), some (.ref 61), some (.int v4), none, none] [.int q6.1] q6.2
          have hE := jv_Cx1 hE hR
          have hS := jv_Sc1 hS
          refine jv_istore (x := q6.1) (L' := [some (.ref 62), some (.ref 0), some (.ref 35), some (.ref 61), some (.int v4), some (.int q6.1), none]) (pc' := 1233) hE dL_law_1231 rfl (by decide) rfl rfl ?_
          refine jv_aload_n (x := 35) (pc' := 1234) hE dL_law_1233 rfl 2 rfl rfl ?_
          refine jv_aload_n (x := 62) (pc' := 1235) hE dL_law_1234 rfl 0 rfl rfl ?_
          refine jv_iload (x := v4) (pc' := 1237) hE dL_law_1235 rfl rfl ?_
          refine jv_iconst (v := (1 : Int32)) (pc' := 1238) hE dL_law_1237 rfl (by decide) ?_
          refine jv_iadd (x := v4) (y := (1 : Int32)) (pc' := 1239) hE dL_law_1238 rfl ?_
          by_cases c7 : jv_ck (v4 + (1 : Int32)) N = true
          · rw [if_pos c7] at h
            refine jv_sld (pc' := 1240) hE hS dL_law_1239 rfl (jv_ck_in c7) ?_
            show jv_V (jv_E1 E) 1240 [some (.ref 62), some (.ref 0), some (.ref 35), some (.ref 61), some (.int v4), some (.int q6.1), none] [.int (xs (v4 + (1 : Int32)).toNatClampNeg), .ref 35] q6.2
            refine jv_aload_n (x := 62) (pc' := 1241) hE dL_law_1240 rfl 0 rfl rfl ?_
            refine jv_iload (x := v4) (pc' := 1243) hE dL_law_1241 rfl rfl ?_
            refine jv_iconst (v := (2 : Int32)) (pc' := 1244) hE dL_law_1243 rfl (by decide) ?_
            refine jv_iadd (x := v4) (y := (2 : Int32)) (pc' := 1245) hE dL_law_1244 rfl ?_
            by_cases c8 : jv_ck (v4 + (2 : Int32)) N = true
            · rw [if_pos c8] at h
              refine jv_sld (pc' := 1246) hE hS dL_law_1245 rfl (jv_ck_in c8) ?_
              show jv_V (jv_E1 E) 1246 [some (.ref 62), some (.ref 0), some (.ref 35), some (.ref 61), some (.int v4), some (.int q6.1), none] [.int (xs (v4 + (2 : Int32)).toNatClampNeg), .int (xs (v4 + (1 : Int32)).toNatClampNeg), .ref 35] q6.2
              refine jv_aload_n (x := 62) (pc' := 1247) hE dL_law_1246 rfl 0 rfl rfl ?_
              refine jv_iload (x := v4) (pc' := 1249) hE dL_law_1247 rfl rfl ?_
              refine jv_iconst (v := (3 : Int32)) (pc' := 1250) hE dL_law_1249 rfl (by decide) ?_
              refine jv_iadd (x := v4) (y := (3 : Int32)) (pc' := 1251) hE dL_law_1250 rfl ?_
              by_cases c9 : jv_ck (v4 + (3 : Int32)) N = true
              · rw [if_pos c9] at h
                refine jv_sld (pc' := 1252) hE hS dL_law_1251 rfl (jv_ck_in c9) ?_
                show jv_V (jv_E1 E) 1252 [some (.ref 62), some (.ref 0), some (.ref 35), some (.ref 61), some (.int v4), some (.int q6.1), none] [.int (xs (v4 + (3 : Int32)).toNatClampNeg), .int (xs (v4 + (2 : Int32)).toNatClampNeg), .int (xs (v4 + (1 : Int32)).toNatClampNeg), .ref 35] q6.2
                obtain ⟨q11, hq11, h⟩ := jv_lt_eq h
                have kq11 : jv_V (jv_E1 E) 1260 [some (.ref 62), some (.ref 0), some (.ref 35), some (.ref 61), some (.int v4), some (.int q6.1), none] [.int (jv_b q11), .int (xs (v4 + (2 : Int32)).toNatClampNeg), .int (xs (v4 + (1 : Int32)).toNatClampNeg), .ref 35] q6.2 := by
                  obtain ⟨q12, hq12, h⟩ := jv_bd_some h
                  refine jv_callV (pc' := 1263) (o := some (.int q12.1)) (σ' := q12.2) hE dL_law_1260 rfl lV_L_178 (ok_X8_disjointPaths hq12) rfl rfl rfl (by decide) rfl (Nat.le_of_ble_eq_true rfl) ?_
                  show jv_V (jv_E1 E) 1263 [some (.ref 62), some (.ref 0), some (.ref 35), some (.ref 61), some (.int v4), some (.int q6.1), none] [.int q12.1] q12.2
                  refine jv_istore (x := q12.1) (L' := [some (.ref 62), some (.ref 0), some (.ref 35), some (.ref 61), some (.int v4), some (.int q6.1), some (.int q12.1)]) (pc' := 1265) hE dL_law_1263 rfl (by decide) rfl rfl ?_
                  refine jv_aload_n (x := 35) (pc' := 1266) hE dL_law_1265 rfl 2 rfl rfl ?_
                  refine jv_callV (pc' := 1269) (o := some (.int (f_X8_thrown q12.2))) (σ' := q12.2) hE dL_law_1266 rfl lV_L_104 (ok_X8_thrown rfl) rfl rfl rfl (by decide) rfl (Nat.le_of_ble_eq_true rfl) ?_
                  show jv_V (jv_E1 E) 1269 [some (.ref 62), some (.ref 0), some (.ref 35), some (.ref 61), some (.int v4), some (.int q6.1), some (.int q12.1)] [.int (f_X8_thrown q12.2)] q12.2
                  refine jv_iload (x := q6.1) (pc' := 1271) hE dL_law_1269 rfl rfl ?_
                  refine jv_icmp_eq (x := (f_X8_thrown q12.2)) (y := q6.1) (tgt := 1276) (pc' := 1274) hE dL_law_1271 (by decide) rfl (fun c13 => ?_) (fun c13 => ?_)
                  · rw [if_pos c13] at h
                    refine jv_iload (x := q6.1) (pc' := 1278) hE dL_law_1276 rfl rfl ?_
                    refine jv_if_ne (x := q6.1) (tgt := 1293) (pc' := 1281) hE dL_law_1278 (by decide) rfl (fun c14 => ?_) (fun c14 => ?_)
                    · rw [if_neg c14] at h
                      refine jv_goto (tgt := 1620) hE dL_law_1293 (by decide) ?_
                      cases h
                      exact jv_forget [true, true, true, true, true, false, false] hk
                    · rw [if_pos c14] at h
                      refine jv_aload_n (x := 61) (pc' := 1282) hE dL_law_1281 rfl 3 rfl rfl ?_
                      refine jv_iconst (v := (0 : Int32)) (pc' := 1283) hE dL_law_1282 rfl (by decide) ?_
                      by_cases c15 : jv_ck (0 : Int32) 1 = true
                      · rw [if_pos c15] at h
                        refine jv_lald (pc' := 1284) hE dL_law_1283 rfl rfl (jv_ck_in c15) ?_
                        show jv_V (jv_E1 E) 1284 [some (.ref 62), some (.ref 0), some (.ref 35), some (.ref 61), some (.int v4), some (.int q6.1), some (.int q12.1)] [.long (q12.2.2 61 (0 : Int32).toNatClampNeg)] q12.2
                        refine jv_iload (x := q12.1) (pc' := 1286) hE dL_law_1284 rfl rfl ?_
                        refine jv_i2l (x := q12.1) (pc' := 1287) hE dL_law_1286 rfl ?_
                        refine jv_lcmp (x := (q12.2.2 61 (0 : Int32).toNatClampNeg)) (y := q12.1.toInt64) (pc' := 1288) hE dL_law_1287 rfl ?_
                        refine jv_if_eq (x := (lg_cmp (q12.2.2 61 (0 : Int32).toNatClampNeg) q12.1.toInt64)) (tgt := 1293) (pc' := 1291) hE dL_law_1288 (by decide) rfl (fun c16 => ?_) (fun c16 => ?_)
                        · rw [if_pos c16] at h
                          refine jv_goto (tgt := 1620) hE dL_law_1293 (by decide) ?_
                          cases h
                          exact jv_forget [true, true, true, true, true, false, false] hk
                        · rw [if_neg c16] at h
                          refine jv_iconst (v := (0 : Int32)) (pc' := 1292) hE dL_law_1291 rfl (by decide) ?_
                          cases h
                      · rw [if_neg c15] at h; cases h
                  · rw [if_neg c13] at h
                    refine jv_iconst (v := (0 : Int32)) (pc' := 1275) hE dL_law_1274 rfl (by decide) ?_
                    cases h
                refine jv_if_eq (x := (xs (v4 + (3 : Int32)).toNatClampNeg)) (tgt := 1259) (pc' := 1255) hE dL_law_1252 (by decide) rfl (fun c10 => ?_) (fun c10 => ?_)
                · rw [if_pos c10] at hq11
                  refine jv_iconst (v := (0 : Int32)) (pc' := 1260) hE dL_law_1259 rfl (by decide) ?_
                  cases hq11
                  exact jv_forget [true, true, true, true, true, true, true] kq11
                · rw [if_neg c10] at hq11
                  refine jv_iconst (v := (1 : Int32)) (pc' := 1256) hE dL_law_1255 rfl (by decide) ?_
                  refine jv_goto (tgt := 1260) hE dL_law_1256 (by decide) ?_
                  cases hq11
                  exact jv_forget [true, true, true, true, true, true, true] kq11
              · rw [if_neg c9] at h; cases h
            · rw [if_neg c8] at h; cases h
          · rw [if_neg c7] at h; cases h
        refine jv_if_eq (x := (xs (v4 + (3 : Int32)).toNatClampNeg)) (tgt := 1226) (pc' := 1222) hE dL_law_1219 (by decide) rfl (fun c4 => ?_) (fun c4 => ?_)
        · rw [if_pos c4] at hq5
          refine jv_iconst (v := (0 : Int32)) (pc' := 1227) hE dL_law_1226 rfl (by decide) ?_
          cases hq5
          exact jv_forget [true, true, true, true, true, true, true] kq5
        · rw [if_neg c4] at hq5
          refine jv_iconst (v := (1 : Int32)) (pc' := 1223) hE dL_law_1222 rfl (by decide) ?_
          refine jv_goto (tgt := 1227) hE dL_law_1223 (by decide) ?_
          cases hq5
          exact jv_forget [true, true, true, true, true, true, true] kq5
      · rw [if_neg c3] at h; cases h
    · rw [if_neg c2] at h; cases h
  · rw [if_neg c1] at h; cases h
noncomputable def f_L_case22 (N : Nat) (xs : Nat → Int32) (v4 : Int32) (σ : jv_S) : Option jv_S := if jv_ck (v4 + (1 : Int32)) N = true then (if jv_ck (v4 + (2 : Int32)) N = true then (if jv_ck (v4 + (3 : Int32)) N = true then (if jv_ck (v4 + (4 : Int32)) N = true then (jv_lt (if (xs (v4 + (4 : Int32)).toNatClampNeg) = 0 then (false) else (true)) (fun q6 => jv_bd (f_L_disjointLength σ (xs (v4 + (1 : Int32)).toNatClampNeg) (xs (v4 + (2 : Int32)).toNatClampNeg) (xs (v4 + (3 : Int32)).toNatClampNeg) (jv_b q6)) (fun q7 => if jv_ck (v4 + (1 : Int32)) N = true then (if jv_ck (v4 + (2 : Int32)) N = true then (if jv_ck (v4 + (3 : Int32)) N = true then (if jv_ck (v4 + (4 : Int32)) N = true then (jv_lt (if (xs (v4 + (4 : Int32)).toNatClampNeg) = 0 then (false) else (true)) (fun q13 => jv_bd (f_X8_disjointLength q7.2 (xs (v4 + (1 : Int32)).toNatClampNeg) (xs (v4 + (2 : Int32)).toNatClampNeg) (xs (v4 + (3 : Int32)).toNatClampNeg) (jv_b q13)) (fun q14 => if (f_X8_thrown q14.2) = q7.1 then (if q7.1 = 0 then (if jv_ck (0 : Int32) 1 = true then (if (lg_cmp (q14.2.2 61 (0 : Int32).toNatClampNeg) q14.1.toInt64) = 0 then (some q14.2) else (none)) else none) else (some q14.2)) else (none)))) else none) else none) else none) else none))) else none) else none) else none) else none
set_option maxRecDepth 100000 in
set_option maxHeartbeats 4000000 in
theorem lc_22 {E : jv_E} {N : Nat} {xs : Nat → Int32} (hl0 : (jv_l E).stackTraces = false) (hE : jv_Cx E RL cL_law 7 21) (hR : jv_rc E 1) (hS : jv_Sc E N xs) {v4 : Int32} {σ τ : jv_S} (h : f_L_case22 N xs v4 σ = some τ) (hk : jv_V (jv_E1 E) 1620 [some (.ref 62), some (.ref 0), some (.ref 35), some (.ref 61), some (.int v4), none, none] [] τ) : jv_V E 1296 [some (.ref 62), some (.ref 0), some (.ref 35), some (.ref 61), some (.int v4), none, none] [] σ := by
  unfold f_L_case22 at h
  refine jv_aload_n (x := 0) (pc' := 1297) hE dL_law_1296 rfl 1 rfl rfl ?_
  refine jv_aload_n (x := 62) (pc' := 1298) hE dL_law_1297 rfl 0 rfl rfl ?_
  refine jv_iload (x := v4) (pc' := 1300) hE dL_law_1298 rfl rfl ?_
  refine jv_iconst (v := (1 : Int32)) (pc' := 1301) hE dL_law_1300 rfl (by decide) ?_
  refine jv_iadd (x := v4) (y := (1 : Int32)) (pc' := 1302) hE dL_law_1301 rfl ?_
  by_cases c1 : jv_ck (v4 + (1 : Int32)) N = true
  · rw [if_pos c1] at h
    refine jv_sld (pc' := 1303) hE hS dL_law_1302 rfl (jv_ck_in c1) ?_
    show jv_V E 1303 [some (.ref 62), some (.ref 0), some (.ref 35), some (.ref 61), some (.int v4), none, none] [.int (xs (v4 + (1 : Int32)).toNatClampNeg), .ref 0] σ
    refine jv_aload_n (x := 62) (pc' := 1304) hE dL_law_1303 rfl 0 rfl rfl ?_
    refine jv_iload (x := v4) (pc' := 1306) hE dL_law_1304 rfl rfl ?_
    refine jv_iconst (v := (2 : Int32)) (pc' := 1307) hE dL_law_1306 rfl (by decide) ?_
    refine jv_iadd (x := v4) (y := (2 : Int32)) (pc' := 1308) hE dL_law_1307 rfl ?_
    by_cases c2 : jv_ck (v4 + (2 : Int32)) N = true
    · rw [if_pos c2] at h
      refine jv_sld (pc' := 1309) hE hS dL_law_1308 rfl (jv_ck_in c2) ?_
      show jv_V E 1309 [some (.ref 62), some (.ref 0), some (.ref 35), some (.ref 61), some (.int v4), none, none] [.int (xs (v4 + (2 : Int32)).toNatClampNeg), .int (xs (v4 + (1 : Int32)).toNatClampNeg), .ref 0] σ
      refine jv_aload_n (x := 62) (pc' := 1310) hE dL_law_1309 rfl 0 rfl rfl ?_
      refine jv_iload (x := v4) (pc' := 1312) hE dL_law_1310 rfl rfl ?_
      refine jv_iconst (v := (3 : Int32)) (pc' := 1313) hE dL_law_1312 rfl (by decide) ?_
      refine jv_iadd (x := v4) (y := (3 : Int32)) (pc' := 1314) hE dL_law_1313 rfl ?_
      by_cases c3 : jv_ck (v4 + (3 : Int32)) N = true
      · rw [if_pos c3] at h
        refine jv_sld (pc' := 1315) hE hS dL_law_1314 rfl (jv_ck_in c3) ?_
        show jv_V E 1315 [some (.ref 62), some (.ref 0), some (.ref 35), some (.ref 61), some (.int v4), none, none] [.int (xs (v4 + (3 : Int32)).toNatClampNeg), .int (xs (v4 + (2 : Int32)).toNatClampNeg), .int (xs (v4 + (1 : Int32)).toNatClampNeg), .ref 0] σ
        refine jv_aload_n (x := 62) (pc' := 1316) hE dL_law_1315 rfl 0 rfl rfl ?_
        refine jv_iload (x := v4) (pc' := 1318) hE dL_law_1316 rfl rfl ?_
        refine jv_iconst (v := (4 : Int32)) (pc' := 1319) hE dL_law_1318 rfl (by decide) ?_
        refine jv_iadd (x := v4) (y := (4 : Int32)) (pc' := 1320) hE dL_law_1319 rfl ?_
        by_cases c4 : jv_ck (v4 + (4 : Int32)) N = true
        · rw [if_pos c4] at h
          refine jv_sld (pc' := 1321) hE hS dL_law_1320 rfl (jv_ck_in c4) ?_
          show jv_V E 1321 [some (.ref 62), some (.ref 0), some (.ref 35), some (.ref 61), some (.int v4), none, none] [.int (xs (v4 + (4 : Int32)).toNatClampNeg), .int (xs (v4 + (3 : Int32)).toNatClampNeg), .int (xs (v4 + (2 : Int32)).toNatClampNeg), .int (xs (v4 + (1 : Int32)).toNatClampNeg), .ref 0] σ
          obtain ⟨q6, hq6, h⟩ := jv_lt_eq h
          have kq6 : jv_V E 1329 [some (.ref 62), some (.ref 0), some (.ref 35), some (.ref 61), some (.int v4), none, none] [.int (jv_b q6), .int (xs (v4 + (3 : Int32)).toNatClampNeg), .int (xs (v4 + (2 : Int32)).toNatClampNeg), .int (xs (v4 + (1 : Int32)).toNatClampNeg), .ref 0] σ := by
            refine jv_aload_n (x := 61) (pc' := 1330) hE dL_law_1329 rfl 3 rfl rfl ?_
            obtain ⟨q7, hq7, h⟩ := jv_bd_some h
            refine jv_callW (pc' := 1333) hE hR dL_law_1330 rfl lK_L_179 (ok_L_disjointLength hl0 hq7) rfl (by decide) rfl (Nat.le_of_ble_eq_true rfl) ?_
            show jv_V (jv_E1 E) 1333 [some (.ref 62), some (.ref 0), some (.ref 35), some (.ref 61), some (.int v4), none, none] [.int q7.1] q7.2
            have hE := jv_Cx1 hE hR
            have hS := jv_Sc1 hS
            refine jv_istore (x := q7.1) (L' := [some (.ref 62), some (.ref 0), some (.ref 35), some (.ref 61), some (.int v4), some (.int q7.1), none]) (pc' := 1335) hE dL_law_1333 rfl (by decide) rfl rfl ?_
            refine jv_aload_n (x := 35) (pc' := 1336) hE dL_law_1335 rfl 2 rfl rfl ?_
            refine jv_aload_n (x := 62) (pc' := 1337) hE dL_law_1336 rfl 0 rfl rfl ?_
            refine jv_iload (x := v4) (pc' := 1339) hE dL_law_1337 rfl rfl ?_
            refine jv_iconst (v := (1 : Int32)) (pc' := 1340) hE dL_law_1339 rfl (by decide) ?_
            refine jv_iadd (x := v4) (y := (1 : Int32)) (pc' := 1341) hE dL_law_1340 rfl ?_
            by_cases c8 : jv_ck (v4 + (1 : Int32)) N = true
            · rw [if_pos c8] at h
              refine jv_sld (pc' := 1342) hE hS dL_law_1341 rfl (jv_ck_in c8) ?_
              show jv_V (jv_E1 E) 1342 [some (.ref 62), some (.ref 0), some (.ref 35), some (.ref 61), some (.int v4), some (.int q7.1), none] [.int (xs (v4 + (1 : Int32)).toNatClampNeg), .ref 35] q7.2
              refine jv_aload_n (x := 62) (pc' := 1343) hE dL_law_1342 rfl 0 rfl rfl ?_
              refine jv_iload (x := v4) (pc' := 1345) hE dL_law_1343 rfl rfl ?_
              refine jv_iconst (v := (2 : Int32)) (pc' := 1346) hE dL_law_1345 rfl (by decide) ?_
              refine jv_iadd (x := v4) (y := (2 : Int32)) (pc' := 1347) hE dL_law_1346 rfl ?_
              by_cases c9 : jv_ck (v4 + (2 : Int32)) N = true
              · rw [if_pos c9] at h
                refine jv_sld (pc' := 1348) hE hS dL_law_1347 rfl (jv_ck_in c9) ?_
                show jv_V (jv_E1 E) 1348 [some (.ref 62), some (.ref 0), some (.ref 35), some (.ref 61), some (.int v4), some (.int q7.1), none] [.int (xs (v4 + (2 : Int32)).toNatClampNeg), .int (xs (v4 + (1 : Int32)).toNatClampNeg), .ref 35] q7.2
                refine jv_aload_n (x := 62) (pc' := 1349) hE dL_law_1348 rfl 0 rfl rfl ?_
                refine jv_iload (x := v4) (pc' := 1351) hE dL_law_1349 rfl rfl ?_
                refine jv_iconst (v := (3 : Int32)) (pc' := 1352) hE dL_law_1351 rfl (by decide) ?_
                refine jv_iadd (x := v4) (y := (3 : Int32)) (pc' := 1353) hE dL_law_1352 rfl ?_
                by_cases c10 : jv_ck (v4 + (3 : Int32)) N = true
                · rw [if_pos c10] at h
                  refine jv_sld (pc' := 1354) hE hS dL_law_1353 rfl (jv_ck_in c10) ?_
                  show jv_V (jv_E1 E) 1354 [some (.ref 62), some (.ref 0), some (.ref 35), some (.ref 61), some (.int v4), some (.int q7.1), none] [.int (xs (v4 + (3 : Int32)).toNatClampNeg), .int (xs (v4 + (2 : Int32)).toNatClampNeg), .int (xs (v4 + (1 : Int32)).toNatClampNeg), .ref 35] q7.2
                  refine jv_aload_n (x := 62) (pc' := 1355) hE dL_law_1354 rfl 0 rfl rfl ?_
                  refine jv_iload (x := v4) (pc' := 1357) hE dL_law_1355 rfl rfl ?_
                  refine jv_iconst (v := (4 : Int32)) (pc' := 1358) hE dL_law_1357 rfl (by decide) ?_
                  refine jv_iadd (x := v4) (y := (4 : Int32)) (pc' := 1359) hE dL_law_1358 rfl ?_
                  by_cases c11 : jv_ck (v4 + (4 : Int32)) N = true
                  · rw [if_pos c11] at h
                    refine jv_sld (pc' := 1360) hE hS dL_law_1359 rfl (jv_ck_in c11) ?_
                    show jv_V (jv_E1 E) 1360 [some (.ref 62), some (.ref 0), some (.ref 35), some (.ref 61), some (.int v4), some (.int q7.1), none] [.int (xs (v4 + (4 : Int32)).toNatClampNeg), .int (xs (v4 + (3 : Int32)).toNatClampNeg), .int (xs (v4 + (2 : Int32)).toNatClampNeg), .int (xs (v4 + (1 : Int32)).toNatClampNeg), .ref 35] q7.2
                    obtain ⟨q13, hq13, h⟩ := jv_lt_eq h
                    have kq13 : jv_V (jv_E1 E) 1368 [some (.ref 62), some (.ref 0), some (.ref 35), some (.ref 61), some (.int v4), some (.int q7.1), none] [.int (jv_b q13), .int (xs (v4 + (3 : Int32)).toNatClampNeg), .int (xs (v4 + (2 : Int32)).toNatClampNeg), .int (xs (v4 + (1 : Int32)).toNatClampNeg), .ref 35] q7.2 := by
                      obtain ⟨q14, hq14, h⟩ := jv_bd_some h
                      refine jv_callV (pc' := 1371) (o := some (.int q14.1)) (σ' := q14.2) hE dL_law_1368 rfl lV_L_182 (ok_X8_disjointLength hq14) rfl rfl rfl (by decide) rfl (Nat.le_of_ble_eq_true rfl) ?_
                      show jv_V (jv_E1 E) 1371 [some (.ref 62), some (.ref 0), some (.ref 35), some (.ref 61), some (.int v4), some (.int q7.1), none] [.int q14.1] q14.2
                      refine jv_istore (x := q14.1) (L' := [some (.ref 62), some (.ref 0), some (.ref 35), some (.ref 61), some (.int v4), some (.int q7.1), some (.int q14.1)]) (pc' := 1373) hE dL_law_1371 rfl (by decide) rfl rfl ?_
                      refine jv_aload_n (x := 35) (pc' := 1374) hE dL_law_1373 rfl 2 rfl rfl ?_
                      refine jv_callV (pc' := 1377) (o := some (.int (f_X8_thrown q14.2))) (σ' := q14.2) hE dL_law_1374 rfl lV_L_104 (ok_X8_thrown rfl) rfl rfl rfl (by decide) rfl (Nat.le_of_ble_eq_true rfl) ?_
                      show jv_V (jv_E1 E) 1377 [some (.ref 62), some (.ref 0), some (.ref 35), some (.ref 61), some (.int v4), some (.int q7.1), some (.int q14.1)] [.int (f_X8_thrown q14.2)] q14.2
                      refine jv_iload (x := q7.1) (pc' := 1379) hE dL_law_1377 rfl rfl ?_
                      refine jv_icmp_eq (x := (f_X8_thrown q14.2)) (y := q7.1) (tgt := 1384) (pc' := 1382) hE dL_law_1379 (by decide) rfl (fun c15 => ?_) (fun c15 => ?_)
                      · rw [if_pos c15] at h
                        refine jv_iload (x := q7.1) (pc' := 1386) hE dL_law_1384 rfl rfl ?_
                        refine jv_if_ne (x := q7.1) (tgt := 1401) (pc' := 1389) hE dL_law_1386 (by decide) rfl (fun c16 => ?_) (fun c16 => ?_)
                        · rw [if_neg c16] at h
                          refine jv_goto (tgt := 1620) hE dL_law_1401 (by decide) ?_
                          cases h
                          exact jv_forget [true, true, true, true, true, false, false] hk
                        · rw [if_pos c16] at h
                          refine jv_aload_n (x := 61) (pc' := 1390) hE dL_law_1389 rfl 3 rfl rfl ?_
                          refine jv_iconst (v := (0 : Int32)) (pc' := 1391) hE dL_law_1390 rfl (by decide) ?_
                          by_cases c17 : jv_ck (0 : Int32) 1 = true
                          · rw [if_pos c17] at h
                            refine jv_lald (pc' := 1392) hE dL_law_1391 rfl rfl (jv_ck_in c17) ?_
                            show jv_V (jv_E1 E) 1392 [some (.ref 62), some (.ref 0), some (.ref 35), some (.ref 61), some (.int v4), some (.int q7.1), some (.int q14.1)] [.long (q14.2.2 61 (0 : Int32).toNatClampNeg)] q14.2
                            refine jv_iload (x := q14.1) (pc' := 1394) hE dL_law_1392 rfl rfl ?_
                            refine jv_i2l (x := q14.1) (pc' := 1395) hE dL_law_1394 rfl ?_
                            refine jv_lcmp (x := (q14.2.2 61 (0 : Int32).toNatClampNeg)) (y := q14.1.toInt64) (pc' := 1396) hE dL_law_1395 rfl ?_
                            refine jv_if_eq (x := (lg_cmp (q14.2.2 61 (0 : Int32).toNatClampNeg) q14.1.toInt64)) (tgt := 1401) (pc' := 1399) hE dL_law_1396 (by decide) rfl (fun c18 => ?_) (fun c18 => ?_)
                            · rw [if_pos c18] at h
                              refine jv_goto (tgt := 1620) hE dL_law_1401 (by decide) ?_
                              cases h
                              exact jv_forget [true, true, true, true, true, false, false] hk
                            · rw [if_neg c18] at h
                              refine jv_iconst (v := (0 : Int32)) (pc' := 1400) hE dL_law_1399 rfl (by decide) ?_
                              cases h
                          · rw [if_neg c17] at h; cases h
                      · rw [if_neg c15] at h
                        refine jv_iconst (v := (0 : Int32)) (pc' := 1383) hE dL_law_1382 rfl (by decide) ?_
                        cases h
                    refine jv_if_eq (x := (xs (v4 + (4 : Int32)).toNatClampNeg)) (tgt := 1367) (pc' := 1363) hE dL_law_1360 (by decide) rfl (fun c12 => ?_) (fun c12 => ?_)
                    · rw [if_pos c12] at hq13
                      refine jv_iconst (v := (0 : Int32)) (pc' := 1368) hE dL_law_1367 rfl (by decide) ?_
                      cases hq13
                      exact jv_forget [true, true, true, true, true, true, true] kq13
                    · rw [if_neg c12] at hq13
                      refine jv_iconst (v := (1 : Int32)) (pc' := 1364) hE dL_law_1363 rfl (by decide) ?_
                      refine jv_goto (tgt := 1368) hE dL_law_1364 (by decide) ?_
                      cases hq13
                      exact jv_forget [true, true, true, true, true, true, true] kq13
                  · rw [if_neg c11] at h; cases h
                · rw [if_neg c10] at h; cases h
              · rw [if_neg c9] at h; cases h
            · rw [if_neg c8] at h; cases h
          refine jv_if_eq (x := (xs (v4 + (4 : Int32)).toNatClampNeg)) (tgt := 1328) (pc' := 1324) hE dL_law_1321 (by decide) rfl (fun c5 => ?_) (fun c5 => ?_)
          · rw [if_pos c5] at hq6
            refine jv_iconst (v := (0 : Int32)) (pc' := 1329) hE dL_law_1328 rfl (by decide) ?_
            cases hq6
            exact jv_forget [true, true, true, true, true, true, true] kq6
          · rw [if_neg c5] at hq6
            refine jv_iconst (v := (1 : Int32)) (pc' := 1325) hE dL_law_1324 rfl (by decide) ?_
            refine jv_goto (tgt := 1329) hE dL_law_1325 (by decide) ?_
            cases hq6
            exact jv_forget [true, true, true, true, true, true, true] kq6
        · rw [if_neg c4] at h; cases h
      · rw [if_neg c3] at h; cases h
    · rw [if_neg c2] at h; cases h
  · rw [if_neg c1] at h; cases h
noncomputable def f_L_case23 (N : Nat) (xs : Nat → Int32) (v4 : Int32) (σ : jv_S) : Option jv_S := if jv_ck (v4 + (1 : Int32)) N = true then (if jv_ck (v4 + (2 : Int32)) N = true then (jv_bd (f_L_allowedLength σ (xs (v4 + (1 : Int32)).toNatClampNeg) (xs (v4 + (2 : Int32)).toNatClampNeg)) (fun q3 => if jv_ck (v4 + (1 : Int32)) N = true then (if jv_ck (v4 + (2 : Int32)) N = true then (jv_bd (f_X8_allowedLength q3.2 (xs (v4 + (1 : Int32)).toNatClampNeg) (xs (v4 + (2 : Int32)).toNatClampNeg)) (fun q6 => if (f_X8_thrown q6.2) = q3.1 then (if q3.1 = 0 then (if jv_ck (0 : Int32) 1 = true then (if (lg_cmp (q6.2.2 61 (0 : Int32).toNatClampNeg) q6.1.toInt64) = 0 then (some q6.2) else (none)) else none) else (some q6.2)) else (none))) else none) else none)) else none) else none
set_option maxRecDepth 100000 in
set_option maxHeartbeats 4000000 in
theorem lc_23 {E : jv_E} {N : Nat} {xs : Nat → Int32} (hl0 : (jv_l E).stackTraces = false) (hE : jv_Cx E RL cL_law 7 21) (hR : jv_rc E 1) (hS : jv_Sc E N xs) {v4 : Int32} {σ τ : jv_S} (h : f_L_case23 N xs v4 σ = some τ) (hk : jv_V (jv_E1 E) 1620 [some (.ref 62), some (.ref 0), some (.ref 35), some (.ref 61), some (.int v4), none, none] [] τ) : jv_V E 1404 [some (.ref 62), some (.ref 0), some (.ref 35), some (.ref 61), some (.int v4), none, none] [] σ := by
  unfold f_L_case23 at h
  refine jv_aload_n (x := 0) (pc' := 1405) hE dL_law_1404 rfl 1 rfl rfl ?_
  refine jv_aload_n (x := 62) (pc' := 1406) hE dL_law_1405 rfl 0 rfl rfl ?_
  refine jv_iload (x := v4) (pc' := 1408) hE dL_law_1406 rfl rfl ?_
  refine jv_iconst (v := (1 : Int32)) (pc' := 1409) hE dL_law_1408 rfl (by decide) ?_
  refine jv_iadd (x := v4) (y := (1 : Int32)) (pc' := 1410) hE dL_law_1409 rfl ?_
  by_cases c1 : jv_ck (v4 + (1 : Int32)) N = true
  · rw [if_pos c1] at h
    refine jv_sld (pc' := 1411) hE hS dL_law_1410 rfl (jv_ck_in c1) ?_
    show jv_V E 1411 [some (.ref 62), some (.ref 0), some (.ref 35), some (.ref 61), some (.int v4), none, none] [.int (xs (v4 + (1 : Int32)).toNatClampNeg), .ref 0] σ
    refine jv_aload_n (x := 62) (pc' := 1412) hE dL_law_1411 rfl 0 rfl rfl ?_
    refine jv_iload (x := v4) (pc' := 1414) hE dL_law_1412 rfl rfl ?_
    refine jv_iconst (v := (2 : Int32)) (pc' := 1415) hE dL_law_1414 rfl (by decide) ?_
    refine jv_iadd (x := v4) (y := (2 : Int32)) (pc' := 1416) hE dL_law_1415 rfl ?_
    by_cases c2 : jv_ck (v4 + (2 : Int32)) N = true
    · rw [if_pos c2] at h
      refine jv_sld (pc' := 1417) hE hS dL_law_1416 rfl (jv_ck_in c2) ?_
      show jv_V E 1417 [some (.ref 62), some (.ref 0), some (.ref 35), some (.ref 61), some (.int v4), none, none] [.int (xs (v4 + (2 : Int32)).toNatClampNeg), .int (xs (v4 + (1 : Int32)).toNatClampNeg), .ref 0] σ
      refine jv_aload_n (x := 61) (pc' := 1418) hE dL_law_1417 rfl 3 rfl rfl ?_
      obtain ⟨q3, hq3, h⟩ := jv_bd_some h
      refine jv_callW (pc' := 1421) hE hR dL_law_1418 rfl lK_L_183 (ok_L_allowedLength hl0 hq3) rfl (by decide) rfl (Nat.le_of_ble_eq_true rfl) ?_
      show jv_V (jv_E1 E) 1421 [some (.ref 62), some (.ref 0), some (.ref 35), some (.ref 61), some (.int v4), none, none] [.int q3.1] q3.2
      have hE := jv_Cx1 hE hR
      have hS := jv_Sc1 hS
      refine jv_istore (x := q3.1) (L' := [some (.ref 62), some (.ref 0), some (.ref 35), some (.ref 61), some (.int v4), some (.int q3.1), none]) (pc' := 1423) hE dL_law_1421 rfl (by decide) rfl rfl ?_
      refine jv_aload_n (x := 35) (pc' := 1424) hE dL_law_1423 rfl 2 rfl rfl ?_
      refine jv_aload_n (x := 62) (pc' := 1425) hE dL_law_1424 rfl 0 rfl rfl ?_
      refine jv_iload (x := v4) (pc' := 1427) hE dL_law_1425 rfl rfl ?_
      refine jv_iconst (v := (1 : Int32)) (pc' := 1428) hE dL_law_1427 rfl (by decide) ?_
      refine jv_iadd (x := v4) (y := (1 : Int32)) (pc' := 1429) hE dL_law_1428 rfl ?_
      by_cases c4 : jv_ck (v4 + (1 : Int32)) N = true
      · rw [if_pos c4] at h
        refine jv_sld (pc' := 1430) hE hS dL_law_1429 rfl (jv_ck_in c4) ?_
        show jv_V (jv_E1 E) 1430 [some (.ref 62), some (.ref 0), some (.ref 35), some (.ref 61), some (.int v4), some (.int q3.1), none] [.int (xs (v4 + (1 : Int32)).toNatClampNeg), .ref 35] q3.2
        refine jv_aload_n (x := 62) (pc' := 1431) hE dL_law_1430 rfl 0 rfl rfl ?_
        refine jv_iload (x := v4) (pc' := 1433) hE dL_law_1431 rfl rfl ?_
        refine jv_iconst (v := (2 : Int32)) (pc' := 1434) hE dL_law_1433 rfl (by decide) ?_
        refine jv_iadd (x := v4) (y := (2 : Int32)) (pc' := 1435) hE dL_law_1434 rfl ?_
        by_cases c5 : jv_ck (v4 + (2 : Int32)) N = true
        · rw [if_pos c5] at h
          refine jv_sld (pc' := 1436) hE hS dL_law_1435 rfl (jv_ck_in c5) ?_
          show jv_V (jv_E1 E) 1436 [some (.ref 62), some (.ref 0), some (.ref 35), some (.ref 61), some (.int v4), some (.int q3.1), none] [.int (xs (v4 + (2 : Int32)).toNatClampNeg), .int (xs (v4 + (1 : Int32)).toNatClampNeg), .ref 35] q3.2
          obtain ⟨q6, hq6, h⟩ := jv_bd_some h
          refine jv_callV (pc' := 1439) (o := some (.int q6.1)) (σ' := q6.2) hE dL_law_1436 rfl lV_L_185 (ok_X8_allowedLength hq6) rfl rfl rfl (by decide) rfl (Nat.le_of_ble_eq_true rfl) ?_
          show jv_V (jv_E1 E) 1439 [some (.ref 62), some (.ref 0), some (.ref 35), some (.ref 61), some (.int v4), some (.int q3.1), none] [.int q6.1] q6.2
          refine jv_istore (x := q6.1) (L' := [some (.ref 62), some (.ref 0), some (.ref 35), some (.ref 61), some (.int v4), some (.int q3.1), some (.int q6.1)]) (pc' := 1441) hE dL_law_1439 rfl (by decide) rfl rfl ?_
          refine jv_aload_n (x := 35) (pc' := 1442) hE dL_law_1441 rfl 2 rfl rfl ?_
          refine jv_callV (pc' := 1445) (o := some (.int (f_X8_thrown q6.2))) (σ' := q6.2) hE dL_law_1442 rfl lV_L_104 (ok_X8_thrown rfl) rfl rfl rfl (by decide) rfl (Nat.le_of_ble_eq_true rfl) ?_
          show jv_V (jv_E1 E) 1445 [some (.ref 62), some (.ref 0), some (.ref 35), some (.ref 61), some (.int v4), some (.int q3.1), some (.int q6.1)] [.int (f_X8_thrown q6.2)] q6.2
          refine jv_iload (x := q3.1) (pc' := 1447) hE dL_law_1445 rfl rfl ?_
          refine jv_icmp_eq (x := (f_X8_thrown q6.2)) (y := q3.1) (tgt := 1452) (pc' := 1450) hE dL_law_1447 (by decide) rfl (fun c7 => ?_) (fun c7 => ?_)
          · rw [if_pos c7] at h
            refine jv_iload (x := q3.1) (pc' := 1454) hE dL_law_1452 rfl rfl ?_
            refine jv_if_ne (x := q3.1) (tgt := 1469) (pc' := 1457) hE dL_law_1454 (by decide) rfl (fun c8 => ?_) (fun c8 => ?_)
            · rw [if_neg c8] at h
              refine jv_goto (tgt := 1620) hE dL_law_1469 (by decide) ?_
              cases h
              exact jv_forget [true, true, true, true, true, false, false] hk
            · rw [if_pos c8] at h
              refine jv_aload_n (x := 61) (pc' := 1458) hE dL_law_1457 rfl 3 rfl rfl ?_
              refine jv_iconst (v := (0 : Int32)) (pc' := 1459) hE dL_law_1458 rfl (by decide) ?_
              by_cases c9 : jv_ck (0 : Int32) 1 = true
              · rw [if_pos c9] at h
                refine jv_lald (pc' := 1460) hE dL_law_1459 rfl rfl (jv_ck_in c9) ?_
                show jv_V (jv_E1 E) 1460 [some (.ref 62), some (.ref 0), some (.ref 35), some (.ref 61), some (.int v4), some (.int q3.1), some (.int q6.1)] [.long (q6.2.2 61 (0 : Int32).toNatClampNeg)] q6.2
                refine jv_iload (x := q6.1) (pc' := 1462) hE dL_law_1460 rfl rfl ?_
                refine jv_i2l (x := q6.1) (pc' := 1463) hE dL_law_1462 rfl ?_
                refine jv_lcmp (x := (q6.2.2 61 (0 : Int32).toNatClampNeg)) (y := q6.1.toInt64) (pc' := 1464) hE dL_law_1463 rfl ?_
                refine jv_if_eq (x := (lg_cmp (q6.2.2 61 (0 : Int32).toNatClampNeg) q6.1.toInt64)) (tgt := 1469) (pc' := 1467) hE dL_law_1464 (by decide) rfl (fun c10 => ?_) (fun c10 => ?_)
                · rw [if_pos c10] at h
                  refine jv_goto (tgt := 1620) hE dL_law_1469 (by decide) ?_
                  cases h
                  exact jv_forget [true, true, true, true, true, false, false] hk
                · rw [if_neg c10] at h
                  refine jv_iconst (v := (0 : Int32)) (pc' := 1468) hE dL_law_1467 rfl (by decide) ?_
                  cases h
              · rw [if_neg c9] at h; cases h
          · rw [if_neg c7] at h
            refine jv_iconst (v := (0 : Int32)) (pc' := 1451) hE dL_law_1450 rfl (by decide) ?_
            cases h
        · rw [if_neg c5] at h; cases h
      · rw [if_neg c4] at h; cases h
    · rw [if_neg c2] at h; cases h
  · rw [if_neg c1] at h; cases h
noncomputable def f_L_case24 (N : Nat) (xs : Nat → Int32) (v4 : Int32) (σ : jv_S) : Option jv_S := if jv_ck (v4 + (1 : Int32)) N = true then (if jv_ck (v4 + (2 : Int32)) N = true then (jv_bd (f_L_allowedEdges σ (xs (v4 + (1 : Int32)).toNatClampNeg) (xs (v4 + (2 : Int32)).toNatClampNeg)) (fun q3 => if jv_ck (v4 + (1 : Int32)) N = true then (if jv_ck (v4 + (2 : Int32)) N = true then (jv_bd (f_X8_allowedEdges q3.2 (xs (v4 + (1 : Int32)).toNatClampNeg) (xs (v4 + (2 : Int32)).toNatClampNeg)) (fun q6 => if (f_X8_thrown q6.2) = q3.1 then (if q3.1 = 0 then (if jv_ck (0 : Int32) 1 = true then (if (lg_cmp (q6.2.2 61 (0 : Int32).toNatClampNeg) q6.1.toInt64) = 0 then (some q6.2) else (none)) else none) else (some q6.2)) else (none))) else none) else none)) else none) else none
set_option maxRecDepth 100000 in
set_option maxHeartbeats 4000000 in
theorem lc_24 {E : jv_E} {N : Nat} {xs : Nat → Int32} (hl0 : (jv_l E).stackTraces = false) (hE : jv_Cx E RL cL_law 7 21) (hR : jv_rc E 1) (hS : jv_Sc E N xs) {v4 : Int32} {σ τ : jv_S} (h : f_L_case24 N xs v4 σ = some τ) (hk : jv_V (jv_E1 E) 1620 [some (.ref 62), some (.ref 0), some (.ref 35), some (.ref 61), some (.int v4), none, none] [] τ) : jv_V E 1472 [some (.ref 62), some (.ref 0), some (.ref 35), some (.ref 61), some (.int v4), none, none] [] σ := by
  unfold f_L_case24 at h
  refine jv_aload_n (x := 0) (pc' := 1473) hE dL_law_1472 rfl 1 rfl rfl ?_
  refine jv_aload_n (x := 62) (pc' := 1474) hE dL_law_1473 rfl 0 rfl rfl ?_
  refine jv_iload (x := v4) (pc' := 1476) hE dL_law_1474 rfl rfl ?_
  refine jv_iconst (v := (1 : Int32)) (pc' := 1477) hE dL_law_1476 rfl (by decide) ?_
  refine jv_iadd (x := v4) (y := (1 : Int32)) (pc' := 1478) hE dL_law_1477 rfl ?_
  by_cases c1 : jv_ck (v4 + (1 : Int32)) N = true
  · rw [if_pos c1] at h
    refine jv_sld (pc' := 1479) hE hS dL_law_1478 rfl (jv_ck_in c1) ?_
    show jv_V E 1479 [some (.ref 62), some (.ref 0), some (.ref 35), some (.ref 61), some (.int v4), none, none] [.int (xs (v4 + (1 : Int32)).toNatClampNeg), .ref 0] σ
    refine jv_aload_n (x := 62) (pc' := 1480) hE dL_law_1479 rfl 0 rfl rfl ?_
    refine jv_iload (x := v4) (pc' := 1482) hE dL_law_1480 rfl rfl ?_
    refine jv_iconst (v := (2 : Int32)) (pc' := 1483) hE dL_law_1482 rfl (by decide) ?_
    refine jv_iadd (x := v4) (y := (2 : Int32)) (pc' := 1484) hE dL_law_1483 rfl ?_
    by_cases c2 : jv_ck (v4 + (2 : Int32)) N = true
    · rw [if_pos c2] at h
      refine jv_sld (pc' := 1485) hE hS dL_law_1484 rfl (jv_ck_in c2) ?_
      show jv_V E 1485 [some (.ref 62), some (.ref 0), some (.ref 35), some (.ref 61), some (.int v4), none, none] [.int (xs (v4 + (2 : Int32)).toNatClampNeg), .int (xs (v4 + (1 : Int32)).toNatClampNeg), .ref 0] σ
      refine jv_aload_n (x := 61) (pc' := 1486) hE dL_law_1485 rfl 3 rfl rfl ?_
      obtain ⟨q3, hq3, h⟩ := jv_bd_some h
      refine jv_callW (pc' := 1489) hE hR dL_law_1486 rfl lK_L_186 (ok_L_allowedEdges hl0 hq3) rfl (by decide) rfl (Nat.le_of_ble_eq_true rfl) ?_
      show jv_V (jv_E1 E) 1489 [some (.ref 62), some (.ref 0), some (.ref 35), some (.ref 61), some (.int v4), none, none] [.int q3.1] q3.2
      have hE := jv_Cx1 hE hR
      have hS := jv_Sc1 hS
      refine jv_istore (x := q3.1) (L' := [some (.ref 62), some (.ref 0), some (.ref 35), some (.ref 61), some (.int v4), some (.int q3.1), none]) (pc' := 1491) hE dL_law_1489 rfl (by decide) rfl rfl ?_
      refine jv_aload_n (x := 35) (pc' := 1492) hE dL_law_1491 rfl 2 rfl rfl ?_
      refine jv_aload_n (x := 62) (pc' := 1493) hE dL_law_1492 rfl 0 rfl rfl ?_
      refine jv_iload (x := v4) (pc' := 1495) hE dL_law_1493 rfl rfl ?_
      refine jv_iconst (v := (1 : Int32)) (pc' := 1496) hE dL_law_1495 rfl (by decide) ?_
      refine jv_iadd (x := v4) (y := (1 : Int32)) (pc' := 1497) hE dL_law_1496 rfl ?_
      by_cases c4 : jv_ck (v4 + (1 : Int32)) N = true
      · rw [if_pos c4] at h
        refine jv_sld (pc' := 1498) hE hS dL_law_1497 rfl (jv_ck_in c4) ?_
        show jv_V (jv_E1 E) 1498 [some (.ref 62), some (.ref 0), some (.ref 35), some (.ref 61), some (.int v4), some (.int q3.1), none] [.int (xs (v4 + (1 : Int32)).toNatClampNeg), .ref 35] q3.2
        refine jv_aload_n (x := 62) (pc' := 1499) hE dL_law_1498 rfl 0 rfl rfl ?_
        refine jv_iload (x := v4) (pc' := 1501) hE dL_law_1499 rfl rfl ?_
        refine jv_iconst (v := (2 : Int32)) (pc' := 1502) hE dL_law_1501 rfl (by decide) ?_
        refine jv_iadd (x := v4) (y := (2 : Int32)) (pc' := 1503) hE dL_law_1502 rfl ?_
        by_cases c5 : jv_ck (v4 + (2 : Int32)) N = true
        · rw [if_pos c5] at h
          refine jv_sld (pc' := 1504) hE hS dL_law_1503 rfl (jv_ck_in c5) ?_
          show jv_V (jv_E1 E) 1504 [some (.ref 62), some (.ref 0), some (.ref 35), some (.ref 61), some (.int v4), some (.int q3.1), none] [.int (xs (v4 + (2 : Int32)).toNatClampNeg), .int (xs (v4 + (1 : Int32)).toNatClampNeg), .ref 35] q3.2
          obtain ⟨q6, hq6, h⟩ := jv_bd_some h
          refine jv_callV (pc' := 1507) (o := some (.int q6.1)) (σ' := q6.2) hE dL_law_1504 rfl lV_L_188 (ok_X8_allowedEdges hq6) rfl rfl rfl (by decide) rfl (Nat.le_of_ble_eq_true rfl) ?_
          show jv_V (jv_E1 E) 1507 [some (.ref 62), some (.ref 0), some (.ref 35), some (.ref 61), some (.int v4), some (.int q3.1), none] [.int q6.1] q6.2
          refine jv_istore (x := q6.1) (L' := [some (.ref 62), some (.ref 0), some (.ref 35), some (.ref 61), some (.int v4), some (.int q3.1), some (.int q6.1)]) (pc' := 1509) hE dL_law_1507 rfl (by decide) rfl rfl ?_
          refine jv_aload_n (x := 35) (pc' := 1510) hE dL_law_1509 rfl 2 rfl rfl ?_
          refine jv_callV (pc' := 1513) (o := some (.int (f_X8_thrown q6.2))) (σ' := q6.2) hE dL_law_1510 rfl lV_L_104 (ok_X8_thrown rfl) rfl rfl rfl (by decide) rfl (Nat.le_of_ble_eq_true rfl) ?_
          show jv_V (jv_E1 E) 1513 [some (.ref 62), some (.ref 0), some (.ref 35), some (.ref 61), some (.int v4), some (.int q3.1), some (.int q6.1)] [.int (f_X8_thrown q6.2)] q6.2
          refine jv_iload (x := q3.1) (pc' := 1515) hE dL_law_1513 rfl rfl ?_
          refine jv_icmp_eq (x := (f_X8_thrown q6.2)) (y := q3.1) (tgt := 1520) (pc' := 1518) hE dL_law_1515 (by decide) rfl (fun c7 => ?_) (fun c7 => ?_)
          · rw [if_pos c7] at h
            refine jv_iload (x := q3.1) (pc' := 1522) hE dL_law_1520 rfl rfl ?_
            refine jv_if_ne (x := q3.1) (tgt := 1537) (pc' := 1525) hE dL_law_1522 (by decide) rfl (fun c8 => ?_) (fun c8 => ?_)
            · rw [if_neg c8] at h
              refine jv_goto (tgt := 1620) hE dL_law_1537 (by decide) ?_
              cases h
              exact jv_forget [true, true, true, true, true, false, false] hk
            · rw [if_pos c8] at h
              refine jv_aload_n (x := 61) (pc' := 1526) hE dL_law_1525 rfl 3 rfl rfl ?_
              refine jv_iconst (v := (0 : Int32)) (pc' := 1527) hE dL_law_1526 rfl (by decide) ?_
              by_cases c9 : jv_ck (0 : Int32) 1 = true
              · rw [if_pos c9] at h
                refine jv_lald (pc' := 1528) hE dL_law_1527 rfl rfl (jv_ck_in c9) ?_
                show jv_V (jv_E1 E) 1528 [some (.ref 62), some (.ref 0), some (.ref 35), some (.ref 61), some (.int v4), some (.int q3.1), some (.int q6.1)] [.long (q6.2.2 61 (0 : Int32).toNatClampNeg)] q6.2
                refine jv_iload (x := q6.1) (pc' := 1530) hE dL_law_1528 rfl rfl ?_
                refine jv_i2l (x := q6.1) (pc' := 1531) hE dL_law_1530 rfl ?_
                refine jv_lcmp (x := (q6.2.2 61 (0 : Int32).toNatClampNeg)) (y := q6.1.toInt64) (pc' := 1532) hE dL_law_1531 rfl ?_
                refine jv_if_eq (x := (lg_cmp (q6.2.2 61 (0 : Int32).toNatClampNeg) q6.1.toInt64)) (tgt := 1537) (pc' := 1535) hE dL_law_1532 (by decide) rfl (fun c10 => ?_) (fun c10 => ?_)
                · rw [if_pos c10] at h
                  refine jv_goto (tgt := 1620) hE dL_law_1537 (by decide) ?_
                  cases h
                  exact jv_forget [true, true, true, true, true, false, false] hk
                · rw [if_neg c10] at h
                  refine jv_iconst (v := (0 : Int32)) (pc' := 1536) hE dL_law_1535 rfl (by decide) ?_
                  cases h
              · rw [if_neg c9] at h; cases h
          · rw [if_neg c7] at h
            refine jv_iconst (v := (0 : Int32)) (pc' := 1519) hE dL_law_1518 rfl (by decide) ?_
            cases h
        · rw [if_neg c5] at h; cases h
      · rw [if_neg c4] at h; cases h
    · rw [if_neg c2] at h; cases h
  · rw [if_neg c1] at h; cases h
noncomputable def f_L_case25 (N : Nat) (xs : Nat → Int32) (v4 : Int32) (σ : jv_S) : Option jv_S := if jv_ck (v4 + (1 : Int32)) N = true then (if jv_ck (v4 + (2 : Int32)) N = true then (if jv_ck (v4 + (3 : Int32)) N = true then (jv_bd (f_L_allowedEdge σ (xs (v4 + (1 : Int32)).toNatClampNeg) (xs (v4 + (2 : Int32)).toNatClampNeg) (xs (v4 + (3 : Int32)).toNatClampNeg)) (fun q4 => if jv_ck (v4 + (1 : Int32)) N = true then (if jv_ck (v4 + (2 : Int32)) N = true then (if jv_ck (v4 + (3 : Int32)) N = true then (jv_bd (f_X8_allowedEdge q4.2 (xs (v4 + (1 : Int32)).toNatClampNeg) (xs (v4 + (2 : Int32)).toNatClampNeg) (xs (v4 + (3 : Int32)).toNatClampNeg)) (fun q8 => if (f_X8_thrown q8.2) = q4.1 then (if q4.1 = 0 then (if jv_ck (0 : Int32) 1 = true then (if (lg_cmp (q8.2.2 61 (0 : Int32).toNatClampNeg) q8.1.toInt64) = 0 then (some q8.2) else (none)) else none) else (some q8.2)) else (none))) else none) else none) else none)) else none) else none) else none
set_option maxRecDepth 100000 in
set_option maxHeartbeats 4000000 in
theorem lc_25 {E : jv_E} {N : Nat} {xs : Nat → Int32} (hl0 : (jv_l E).stackTraces = false) (hE : jv_Cx E RL cL_law 7 21) (hR : jv_rc E 1) (hS : jv_Sc E N xs) {v4 : Int32} {σ τ : jv_S} (h : f_L_case25 N xs v4 σ = some τ) (hk : jv_V (jv_E1 E) 1620 [some (.ref 62), some (.ref 0), some (.ref 35), some (.ref 61), some (.int v4), none, none] [] τ) : jv_V E 1540 [some (.ref 62), some (.ref 0), some (.ref 35), some (.ref 61), some (.int v4), none, none] [] σ := by
  unfold f_L_case25 at h
  refine jv_aload_n (x := 0) (pc' := 1541) hE dL_law_1540 rfl 1 rfl rfl ?_
  refine jv_aload_n (x := 62) (pc' := 1542) hE dL_law_1541 rfl 0 rfl rfl ?_
  refine jv_iload (x := v4) (pc' := 1544) hE dL_law_1542 rfl rfl ?_
  refine jv_iconst (v := (1 : Int32)) (pc' := 1545) hE dL_law_1544 rfl (by decide) ?_
  refine jv_iadd (x := v4) (y := (1 : Int32)) (pc' := 1546) hE dL_law_1545 rfl ?_
  by_cases c1 : jv_ck (v4 + (1 : Int32)) N = true
  · rw [if_pos c1] at h
    refine jv_sld (pc' := 1547) hE hS dL_law_1546 rfl (jv_ck_in c1) ?_
    show jv_V E 1547 [some (.ref 62), some (.ref 0), some (.ref 35), some (.ref 61), some (.int v4), none, none] [.int (xs (v4 + (1 : Int32)).toNatClampNeg), .ref 0] σ
    refine jv_aload_n (x := 62) (pc' := 1548) hE dL_law_1547 rfl 0 rfl rfl ?_
    refine jv_iload (x := v4) (pc' := 1550) hE dL_law_1548 rfl rfl ?_
    refine jv_iconst (v := (2 : Int32)) (pc' := 1551) hE dL_law_1550 rfl (by decide) ?_
    refine jv_iadd (x := v4) (y := (2 : Int32)) (pc' := 1552) hE dL_law_1551 rfl ?_
    by_cases c2 : jv_ck (v4 + (2 : Int32)) N = true
    · rw [if_pos c2] at h
      refine jv_sld (pc' := 1553) hE hS dL_law_1552 rfl (jv_ck_in c2) ?_
      show jv_V E 1553 [some (.ref 62), some (.ref 0), some (.ref 35), some (.ref 61), some (.int v4), none, none] [.int (xs (v4 + (2 : Int32)).toNatClampNeg), .int (xs (v4 + (1 : Int32)).toNatClampNeg), .ref 0] σ
      refine jv_aload_n (x := 62) (pc' := 1554) hE dL_law_1553 rfl 0 rfl rfl ?_
      refine jv_iload (x := v4) (pc' := 1556) hE dL_law_1554 rfl rfl ?_
      refine jv_iconst (v := (3 : Int32)) (pc' := 1557) hE dL_law_1556 rfl (by decide) ?_
      refine jv_iadd (x := v4) (y := (3 : Int32)) (pc' := 1558) hE dL_law_1557 rfl ?_
      by_cases c3 : jv_ck (v4 + (3 : Int32)) N = true
      · rw [if_pos c3] at h
        refine jv_sld (pc' := 1559) hE hS dL_law_1558 rfl (jv_ck_in c3) ?_
        show jv_V E 1559 [some (.ref 62), some (.ref 0), some (.ref 35), some (.ref 61), some (.int v4), none, none] [.int (xs (v4 + (3 : Int32)).toNatClampNeg), .int (xs (v4 + (2 : Int32)).toNatClampNeg), .int (xs (v4 + (1 : Int32)).toNatClampNeg), .ref 0] σ
        refine jv_aload_n (x := 61) (pc' := 1560) hE dL_law_1559 rfl 3 rfl rfl ?_
        obtain ⟨q4, hq4, h⟩ := jv_bd_some h
        refine jv_callW (pc' := 1563) hE hR dL_law_1560 rfl lK_L_189 (ok_L_allowedEdge hl0 hq4) rfl (by decide) rfl (Nat.le_of_ble_eq_true rfl) ?_
        show jv_V (jv_E1 E) 1563 [some (.ref 62), some (.ref 0), some (.ref 35), some (.ref 61), some (.int v4), none, none] [.int q4.1] q4.2
        have hE := jv_Cx1 hE hR
        have hS := jv_Sc1 hS
        refine jv_istore (x := q4.1) (L' := [some (.ref 62), some (.ref 0), some (.ref 35), some (.ref 61), some (.int v4), some (.int q4.1), none]) (pc' := 1565) hE dL_law_1563 rfl (by decide) rfl rfl ?_
        refine jv_aload_n (x := 35) (pc' := 1566) hE dL_law_1565 rfl 2 rfl rfl ?_
        refine jv_aload_n (x := 62) (pc' := 1567) hE dL_law_1566 rfl 0 rfl rfl ?_
        refine jv_iload (x := v4) (pc' := 1569) hE dL_law_1567 rfl rfl ?_
        refine jv_iconst (v := (1 : Int32)) (pc' := 1570) hE dL_law_1569 rfl (by decide) ?_
        refine jv_iadd (x := v4) (y := (1 : Int32)) (pc' := 1571) hE dL_law_1570 rfl ?_
        by_cases c5 : jv_ck (v4 + (1 : Int32)) N = true
        · rw [if_pos c5] at h
          refine jv_sld (pc' := 1572) hE hS dL_law_1571 rfl (jv_ck_in c5) ?_
          show jv_V (jv_E1 E) 1572 [some (.ref 62), some (.ref 0), some (.ref 35), some (.ref 61), some (.int v4), some (.int q4.1), none] [.int (xs (v4 + (1 : Int32)).toNatClampNeg), .ref 35] q4.2
          refine jv_aload_n (x := 62) (pc' := 1573) hE dL_law_1572 rfl 0 rfl rfl ?_
          refine jv_iload (x := v4) (pc' := 1575) hE dL_law_1573 rfl rfl ?_
          refine jv_iconst (v := (2 : Int32)) (pc' := 1576) hE dL_law_1575 rfl (by decide) ?_
          refine jv_iadd (x := v4) (y := (2 : Int32)) (pc' := 1577) hE dL_law_1576 rfl ?_
          by_cases c6 : jv_ck (v4 + (2 : Int32)) N = true
          · rw [if_pos c6] at h
            refine jv_sld (pc' := 1578) hE hS dL_law_1577 rfl (jv_ck_in c6) ?_
            show jv_V (jv_E1 E) 1578 [some (.ref 62), some (.ref 0), some (.ref 35), some (.ref 61), some (.int v4), some (.int q4.1), none] [.int (xs (v4 + (2 : Int32)).toNatClampNeg), .int (xs (v4 + (1 : Int32)).toNatClampNeg), .ref 35] q4.2
            refine jv_aload_n (x := 62) (pc' := 1579) hE dL_law_1578 rfl 0 rfl rfl ?_
            refine jv_iload (x := v4) (pc' := 1581) hE dL_law_1579 rfl rfl ?_
            refine jv_iconst (v := (3 : Int32)) (pc' := 1582) hE dL_law_1581 rfl (by decide) ?_
            refine jv_iadd (x := v4) (y := (3 : Int32)) (pc' := 1583) hE dL_law_1582 rfl ?_
            by_cases c7 : jv_ck (v4 + (3 : Int32)) N = true
            · rw [if_pos c7] at h
              refine jv_sld (pc' := 1584) hE hS dL_law_1583 rfl (jv_ck_in c7) ?_
              show jv_V (jv_E1 E) 1584 [some (.ref 62), some (.ref 0), some (.ref 35), some (.ref 61), some (.int v4), some (.int q4.1), none] [.int (xs (v4 + (3 : Int32)).toNatClampNeg), .int (xs (v4 + (2 : Int32)).toNatClampNeg), .int (xs (v4 + (1 : Int32)).toNatClampNeg), .ref 35] q4.2
              obtain ⟨q8, hq8, h⟩ := jv_bd_some h
              refine jv_callV (pc' := 1587) (o := some (.int q8.1)) (σ' := q8.2) hE dL_law_1584 rfl lV_L_191 (ok_X8_allowedEdge hq8) rfl rfl rfl (by decide) rfl (Nat.le_of_ble_eq_true rfl) ?_
              show jv_V (jv_E1 E) 1587 [some (.ref 62), some (.ref 0), some (.ref 35), some (.ref 61), some (.int v4), some (.int q4.1), none] [.int q8.1] q8.2
              refine jv_istore (x := q8.1) (L' := [some (.ref 62), some (.ref 0), some (.ref 35), some (.ref 61), some (.int v4), some (.int q4.1), some (.int q8.1)]) (pc' := 1589) hE dL_law_1587 rfl (by decide) rfl rfl ?_
              refine jv_aload_n (x := 35) (pc' := 1590) hE dL_law_1589 rfl 2 rfl rfl ?_
              refine jv_callV (pc' := 1593) (o := some (.int (f_X8_thrown q8.2))) (σ' := q8.2) hE dL_law_1590 rfl lV_L_104 (ok_X8_thrown rfl) rfl rfl rfl (by decide) rfl (Nat.le_of_ble_eq_true rfl) ?_
              show jv_V (jv_E1 E) 1593 [some (.ref 62), some (.ref 0), some (.ref 35), some (.ref 61), some (.int v4), some (.int q4.1), some (.int q8.1)] [.int (f_X8_thrown q8.2)] q8.2
              refine jv_iload (x := q4.1) (pc' := 1595) hE dL_law_1593 rfl rfl ?_
              refine jv_icmp_eq (x := (f_X8_thrown q8.2)) (y := q4.1) (tgt := 1600) (pc' := 1598) hE dL_law_1595 (by decide) rfl (fun c9 => ?_) (fun c9 => ?_)
              · rw [if_pos c9] at h
                refine jv_iload (x := q4.1) (pc' := 1602) hE dL_law_1600 rfl rfl ?_
                refine jv_if_ne (x := q4.1) (tgt := 1617) (pc' := 1605) hE dL_law_1602 (by decide) rfl (fun c10 => ?_) (fun c10 => ?_)
                · rw [if_neg c10] at h
                  refine jv_goto (tgt := 1620) hE dL_law_1617 (by decide) ?_
                  cases h
                  exact jv_forget [true, true, true, true, true, false, false] hk
                · rw [if_pos c10] at h
                  refine jv_aload_n (x := 61) (pc' := 1606) hE dL_law_1605 rfl 3 rfl rfl ?_
                  refine jv_iconst (v := (0 : Int32)) (pc' := 1607) hE dL_law_1606 rfl (by decide) ?_
                  by_cases c11 : jv_ck (0 : Int32) 1 = true
                  · rw [if_pos c11] at h
                    refine jv_lald (pc' := 1608) hE dL_law_1607 rfl rfl (jv_ck_in c11) ?_
                    show jv_V (jv_E1 E) 1608 [some (.ref 62), some (.ref 0), some (.ref 35), some (.ref 61), some (.int v4), some (.int q4.1), some (.int q8.1)] [.long (q8.2.2 61 (0 : Int32).toNatClampNeg)] q8.2
                    refine jv_iload (x := q8.1) (pc' := 1610) hE dL_law_1608 rfl rfl ?_
                    refine jv_i2l (x := q8.1) (pc' := 1611) hE dL_law_1610 rfl ?_
                    refine jv_lcmp (x := (q8.2.2 61 (0 : Int32).toNatClampNeg)) (y := q8.1.toInt64) (pc' := 1612) hE dL_law_1611 rfl ?_
                    refine jv_if_eq (x := (lg_cmp (q8.2.2 61 (0 : Int32).toNatClampNeg) q8.1.toInt64)) (tgt := 1617) (pc' := 1615) hE dL_law_1612 (by decide) rfl (fun c12 => ?_) (fun c12 => ?_)
                    · rw [if_pos c12] at h
                      refine jv_goto (tgt := 1620) hE dL_law_1617 (by decide) ?_
                      cases h
                      exact jv_forget [true, true, true, true, true, false, false] hk
                    · rw [if_neg c12] at h
                      refine jv_iconst (v := (0 : Int32)) (pc' := 1616) hE dL_law_1615 rfl (by decide) ?_
                      cases h
                  · rw [if_neg c11] at h; cases h
              · rw [if_neg c9] at h
                refine jv_iconst (v := (0 : Int32)) (pc' := 1599) hE dL_law_1598 rfl (by decide) ?_
                cases h
            · rw [if_neg c7] at h; cases h
          · rw [if_neg c6] at h; cases h
        · rw [if_neg c5] at h; cases h
      · rw [if_neg c3] at h; cases h
    · rw [if_neg c2] at h; cases h
  · rw [if_neg c1] at h; cases h
