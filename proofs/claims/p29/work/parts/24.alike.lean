noncomputable def f_L_areAlike_lp64 (a3 : Int32) (a4 : Int32) : Nat → Bool → Int32 → (jv_S × jv_S) → Option (Bool × Int32 × jv_S × jv_S)
  | 0, _, _, _ => none
  | n + 1, v5, v6, τ => if (8 : Int32) ≤ v6 then (some (v5, v6, τ)) else (if v5 = true then (jv_bd (if v6 = (4 : Int32) then (some (true, τ)) else (jv_bd (f_L_draws τ.1 v6 (0 : Int32)) (fun q11 => jv_bd (f_L_draws τ.2 v6 (0 : Int32)) (fun q12 => if q11.1 = q12.1 then (some (true, (q11.2, q12.2))) else (some (false, (q11.2, q12.2))))))) (fun q10 => f_L_areAlike_lp64 a3 a4 n q10.1 (v6 + (1 : Int32)) q10.2)) else (some (v5, v6, τ)))
noncomputable def f_L_areAlike_lp115 (a3 : Int32) (a4 : Int32) : Nat → Bool → Int32 → (jv_S × jv_S) → Option (Bool × Int32 × jv_S × jv_S)
  | 0, _, _, _ => none
  | n + 1, v5, v6, τ => if (6 : Int32) ≤ v6 then (some (v5, v6, τ)) else (if v5 = true then (jv_bd (f_L_asks τ.1 v6 a3 a4 (1 : Int32)) (fun q17 => jv_bd (f_L_asks τ.2 v6 a3 a4 (1 : Int32)) (fun q18 => jv_lt (if q17.1 = q18.1 then (true) else (false)) (fun q20 => f_L_areAlike_lp115 a3 a4 n q20 (v6 + (1 : Int32)) (q17.2, q18.2))))) else (some (v5, v6, τ)))
noncomputable def f_L_areAlike (τ : jv_S × jv_S) (p1 : Int32) : Option (Bool × jv_S × jv_S) := jv_bd (f_L_low p1 (f_X7_nodes τ.1)) (fun q1 => jv_bd (f_L_low (p1 >>> ((4 : Int32) &&& 31)) (f_X7_nodes τ.1)) (fun q2 => jv_lt (if (f_X7_nodes τ.1) = (f_X7_nodes τ.2) then (if (f_X7_edges τ.1) = (f_X7_edges τ.2) then (if (f_X7_usableEdges τ.1) = (f_X7_usableEdges τ.2) then (true) else (false)) else (false)) else (false)) (fun q4 => jv_bd (f_L_areAlike_lp64 q1 q2 8 q4 (1 : Int32) τ) (fun q14 => jv_bd (f_L_areAlike_lp115 q1 q2 7 q14.1 (0 : Int32) q14.2.2) (fun q21 => some (q21.1, q21.2.2))))))
set_option maxRecDepth 100000 in
set_option maxHeartbeats 4000000 in
theorem lp_L_areAlike_64 {E : jv_E} {NN V : Nat} (hl0 : (jv_l E).stackTraces = false) (hE : gl_C gl_2 E RL cL_areAlike 7 21 NN) {a3 : Int32} {a4 : Int32} : ∀ (n : Nat) (v5 : Bool) (v6 : Int32) (τ : jv_S × jv_S) (r : Bool × Int32 × jv_S × jv_S), f_L_areAlike_lp64 a3 a4 n v5 v6 τ = some r → ∀ u : Nat, u + 2 * n ≤ V → V ≤ NN → (∀ q, r = q → gl_V gl_2 E V 112 [some (.ref 0), some (.ref 35), none, some (.int a3), some (.int a4), some (.int (jv_b q.1)), none] [] q.2.2) → gl_V gl_2 E u 64 [some (.ref 0), some (.ref 35), none, some (.int a3), some (.int a4), some (.int (jv_b v5)), some (.int v6)] [] τ := by
  intro n
  induction n with
  | zero =>
    intro v5 v6 τ r h
    rw [f_L_areAlike_lp64] at h
    cases h
  | succ n ih =>
    intro v5 v6 τ r h u hu hV hk
    rw [f_L_areAlike_lp64] at h
    refine gl_iload (x := v6) (pc' := 66) hE dL_areAlike_64 rfl rfl ?_
    refine gl_bipush (v := (8 : Int32)) (pc' := 68) hE dL_areAlike_66 rfl (by decide) ?_
    refine gl_icmp_ge (x := v6) (y := (8 : Int32)) (tgt := 112) (pc' := 71) hE dL_areAlike_68 (by decide) rfl (fun c7 => ?_) (fun c7 => ?_)
    · rw [if_pos c7] at h
      cases h
      exact gl_fg [true, true, true, true, true, true, false] (by omega) (hk (v5, v6, τ) rfl)
    · rw [if_neg c7] at h
      refine gl_iload (x := (jv_b v5)) (pc' := 73) hE dL_areAlike_71 rfl rfl ?_
      refine gl_if_eq (x := (jv_b v5)) (tgt := 112) (pc' := 76) hE dL_areAlike_73 (by decide) rfl (fun c8 => ?_) (fun c8 => ?_)
      · have c8 := jv_b0 c8
        rw [if_neg c8] at h
        cases h
        exact gl_fg [true, true, true, true, true, true, false] (by omega) (hk (v5, v6, τ) rfl)
      · have c8 := jv_b1 c8
        rw [if_pos c8] at h
        refine gl_iload (x := v6) (pc' := 78) hE dL_areAlike_76 rfl rfl ?_
        refine gl_iconst (v := (4 : Int32)) (pc' := 79) hE dL_areAlike_78 rfl (by decide) ?_
        obtain ⟨q10, hq10, h⟩ := jv_bd_some h
        have kq10 : gl_V gl_2 E (u + 2) 104 [some (.ref 0), some (.ref 35), none, some (.int a3), some (.int a4), none, some (.int v6)] [.int (jv_b q10.1)] q10.2 := by
          refine gl_istore (x := (jv_b q10.1)) (L' := [some (.ref 0), some (.ref 35), none, some (.int a3), some (.int a4), some (.int (jv_b q10.1)), some (.int v6)]) (pc' := 106) hE dL_areAlike_104 rfl (by decide) rfl rfl ?_
          refine gl_iinc (x := v6) (v := (v6 + (1 : Int32))) (L' := [some (.ref 0), some (.ref 35), none, some (.int a3), some (.int a4), some (.int (jv_b q10.1)), some (.int (v6 + (1 : Int32)))]) (pc' := 109) hE dL_areAlike_106 rfl rfl rfl (by decide) rfl rfl ?_
          refine gl_goto (tgt := 64) hE dL_areAlike_109 (by decide) ?_
          exact gl_fg [true, true, true, true, true, true, true] (Nat.le_refl _) (ih q10.1 (v6 + (1 : Int32)) q10.2 _ h _ (by omega) hV hk)
        refine gl_icmp_eq (x := v6) (y := (4 : Int32)) (tgt := 99) (pc' := 82) hE dL_areAlike_79 (by decide) rfl (fun c9 => ?_) (fun c9 => ?_)
        · rw [if_pos c9] at hq10
          refine gl_iconst (v := (1 : Int32)) (pc' := 100) hE dL_areAlike_99 rfl (by decide) ?_
          refine gl_goto (tgt := 104) hE dL_areAlike_100 (by decide) ?_
          cases hq10
          exact gl_fg [true, true, true, true, true, false, true] (by omega) kq10
        · rw [if_neg c9] at hq10
          refine gl_aload_n (x := 0) (pc' := 83) hE dL_areAlike_82 rfl 0 rfl rfl ?_
          refine gl_iload (x := v6) (pc' := 85) hE dL_areAlike_83 rfl rfl ?_
          refine gl_iconst (v := (0 : Int32)) (pc' := 86) hE dL_areAlike_85 rfl (by decide) ?_
          obtain ⟨q11, hq11, hq10⟩ := jv_bd_some hq10
          refine gl_callW (As := [.ref 0, .int v6, .int (0 : Int32)]) (As1 := [.ref 0, .int v6, .int (0 : Int32)]) (gg := (fun G => G)) (pc' := 89) (v := q11.1) hE (fun _ => gl_sL) gl_b1 dL_areAlike_86 rfl lK_L_119 (ok_L_draws hl0 hq11) (fun _ => rfl) rfl (by decide) rfl (Nat.le_of_ble_eq_true rfl) (by omega) ?_
          show gl_V gl_2 E (u + 1) 89 [some (.ref 0), some (.ref 35), none, some (.int a3), some (.int a4), some (.int (jv_b v5)), some (.int v6)] [.int q11.1] (q11.2, τ.2)
          refine gl_aload_n (x := 35) (pc' := 90) hE dL_areAlike_89 rfl 1 rfl rfl ?_
          refine gl_iload (x := v6) (pc' := 92) hE dL_areAlike_90 rfl rfl ?_
          refine gl_iconst (v := (0 : Int32)) (pc' := 93) hE dL_areAlike_92 rfl (by decide) ?_
          obtain ⟨q12, hq12, hq10⟩ := jv_bd_some hq10
          refine gl_callW (As := [.ref 35, .int v6, .int (0 : Int32)]) (As1 := [.ref 0, .int v6, .int (0 : Int32)]) (gg := jv_rt) (pc' := 96) (v := q12.1) hE (fun _ => gl_sR) gl_b1 dL_areAlike_93 rfl lK_L_119 (ok_L_draws hl0 hq12) (fun _ => rfl) rfl (by decide) rfl (Nat.le_of_ble_eq_true rfl) (by omega) ?_
          show gl_V gl_2 E (u + 2) 96 [some (.ref 0), some (.ref 35), none, some (.int a3), some (.int a4), some (.int (jv_b v5)), some (.int v6)] [.int q12.1, .int q11.1] (q11.2, q12.2)
          refine gl_icmp_ne (x := q11.1) (y := q12.1) (tgt := 103) (pc' := 99) hE dL_areAlike_96 (by decide) rfl (fun c13 => ?_) (fun c13 => ?_)
          · rw [if_neg c13] at hq10
            refine gl_iconst (v := (0 : Int32)) (pc' := 104) hE dL_areAlike_103 rfl (by decide) ?_
            cases hq10
            exact gl_fg [true, true, true, true, true, false, true] (by omega) kq10
          · rw [if_pos c13] at hq10
            refine gl_iconst (v := (1 : Int32)) (pc' := 100) hE dL_areAlike_99 rfl (by decide) ?_
            refine gl_goto (tgt := 104) hE dL_areAlike_100 (by decide) ?_
            cases hq10
            exact gl_fg [true, true, true, true, true, false, true] (by omega) kq10
set_option maxRecDepth 100000 in
set_option maxHeartbeats 4000000 in
theorem lp_L_areAlike_115 {E : jv_E} {NN V : Nat} (hl0 : (jv_l E).stackTraces = false) (hE : gl_C gl_2 E RL cL_areAlike 7 21 NN) {a3 : Int32} {a4 : Int32} : ∀ (n : Nat) (v5 : Bool) (v6 : Int32) (τ : jv_S × jv_S) (r : Bool × Int32 × jv_S × jv_S), f_L_areAlike_lp115 a3 a4 n v5 v6 τ = some r → ∀ u : Nat, u + 2 * n ≤ V → V ≤ NN → (∀ q, r = q → gl_V gl_2 E V 163 [none, none, none, none, none, some (.int (jv_b q.1)), none] [] q.2.2) → gl_V gl_2 E u 115 [some (.ref 0), some (.ref 35), none, some (.int a3), some (.int a4), some (.int (jv_b v5)), some (.int v6)] [] τ := by
  intro n
  induction n with
  | zero =>
    intro v5 v6 τ r h
    rw [f_L_areAlike_lp115] at h
    cases h
  | succ n ih =>
    intro v5 v6 τ r h u hu hV hk
    rw [f_L_areAlike_lp115] at h
    refine gl_iload (x := v6) (pc' := 117) hE dL_areAlike_115 rfl rfl ?_
    refine gl_bipush (v := (6 : Int32)) (pc' := 119) hE dL_areAlike_117 rfl (by decide) ?_
    refine gl_icmp_ge (x := v6) (y := (6 : Int32)) (tgt := 163) (pc' := 122) hE dL_areAlike_119 (by decide) rfl (fun c15 => ?_) (fun c15 => ?_)
    · rw [if_pos c15] at h
      cases h
      exact gl_fg [false, false, true, false, false, true, false] (by omega) (hk (v5, v6, τ) rfl)
    · rw [if_neg c15] at h
      refine gl_iload (x := (jv_b v5)) (pc' := 124) hE dL_areAlike_122 rfl rfl ?_
      refine gl_if_eq (x := (jv_b v5)) (tgt := 163) (pc' := 127) hE dL_areAlike_124 (by decide) rfl (fun c16 => ?_) (fun c16 => ?_)
      · have c16 := jv_b0 c16
        rw [if_neg c16] at h
        cases h
        exact gl_fg [false, false, true, false, false, true, false] (by omega) (hk (v5, v6, τ) rfl)
      · have c16 := jv_b1 c16
        rw [if_pos c16] at h
        refine gl_aload_n (x := 0) (pc' := 128) hE dL_areAlike_127 rfl 0 rfl rfl ?_
        refine gl_iload (x := v6) (pc' := 130) hE dL_areAlike_128 rfl rfl ?_
        refine gl_iload_n (x := a3) (pc' := 131) hE dL_areAlike_130 rfl 3 rfl rfl ?_
        refine gl_iload (x := a4) (pc' := 133) hE dL_areAlike_131 rfl rfl ?_
        refine gl_iconst (v := (1 : Int32)) (pc' := 134) hE dL_areAlike_133 rfl (by decide) ?_
        obtain ⟨q17, hq17, h⟩ := jv_bd_some h
        refine gl_callW (As := [.ref 0, .int v6, .int a3, .int a4, .int (1 : Int32)]) (As1 := [.ref 0, .int v6, .int a3, .int a4, .int (1 : Int32)]) (gg := (fun G => G)) (pc' := 137) (v := q17.1) hE (fun _ => gl_sL) gl_b1 dL_areAlike_134 rfl lK_L_125 (ok_L_asks hl0 hq17) (fun _ => rfl) rfl (by decide) rfl (Nat.le_of_ble_eq_true rfl) (by omega) ?_
        show gl_V gl_2 E (u + 1) 137 [some (.ref 0), some (.ref 35), none, some (.int a3), some (.int a4), some (.int (jv_b v5)), some (.int v6)] [.int q17.1] (q17.2, τ.2)
        refine gl_aload_n (x := 35) (pc' := 138) hE dL_areAlike_137 rfl 1 rfl rfl ?_
        refine gl_iload (x := v6) (pc' := 140) hE dL_areAlike_138 rfl rfl ?_
        refine gl_iload_n (x := a3) (pc' := 141) hE dL_areAlike_140 rfl 3 rfl rfl ?_
        refine gl_iload (x := a4) (pc' := 143) hE dL_areAlike_141 rfl rfl ?_
        refine gl_iconst (v := (1 : Int32)) (pc' := 144) hE dL_areAlike_143 rfl (by decide) ?_
        obtain ⟨q18, hq18, h⟩ := jv_bd_some h
        refine gl_callW (As := [.ref 35, .int v6, .int a3, .int a4, .int (1 : Int32)]) (As1 := [.ref 0, .int v6, .int a3, .int a4, .int (1 : Int32)]) (gg := jv_rt) (pc' := 147) (v := q18.1) hE (fun _ => gl_sR) gl_b1 dL_areAlike_144 rfl lK_L_125 (ok_L_asks hl0 hq18) (fun _ => rfl) rfl (by decide) rfl (Nat.le_of_ble_eq_true rfl) (by omega) ?_
        show gl_V gl_2 E (u + 2) 147 [some (.ref 0), some (.ref 35), none, some (.int a3), some (.int a4), some (.int (jv_b v5)), some (.int v6)] [.int q18.1, .int q17.1] (q17.2, q18.2)
        obtain ⟨q20, hq20, h⟩ := jv_lt_eq h
        have kq20 : gl_V gl_2 E (u + 2) 155 [some (.ref 0), some (.ref 35), none, some (.int a3), some (.int a4), none, some (.int v6)] [.int (jv_b q20)] (q17.2, q18.2) := by
          refine gl_istore (x := (jv_b q20)) (L' := [some (.ref 0), some (.ref 35), none, some (.int a3), some (.int a4), some (.int (jv_b q20)), some (.int v6)]) (pc' := 157) hE dL_areAlike_155 rfl (by decide) rfl rfl ?_
          refine gl_iinc (x := v6) (v := (v6 + (1 : Int32))) (L' := [some (.ref 0), some (.ref 35), none, some (.int a3), some (.int a4), some (.int (jv_b q20)), some (.int (v6 + (1 : Int32)))]) (pc' := 160) hE dL_areAlike_157 rfl rfl rfl (by decide) rfl rfl ?_
          refine gl_goto (tgt := 115) hE dL_areAlike_160 (by decide) ?_
          exact gl_fg [true, true, true, true, true, true, true] (Nat.le_refl _) (ih q20 (v6 + (1 : Int32)) (q17.2, q18.2) _ h _ (by omega) hV hk)
        refine gl_icmp_ne (x := q17.1) (y := q18.1) (tgt := 154) (pc' := 150) hE dL_areAlike_147 (by decide) rfl (fun c19 => ?_) (fun c19 => ?_)
        · rw [if_neg c19] at hq20
          refine gl_iconst (v := (0 : Int32)) (pc' := 155) hE dL_areAlike_154 rfl (by decide) ?_
          cases hq20
          exact gl_fg [true, true, true, true, true, false, true] (by omega) kq20
        · rw [if_pos c19] at hq20
          refine gl_iconst (v := (1 : Int32)) (pc' := 151) hE dL_areAlike_150 rfl (by decide) ?_
          refine gl_goto (tgt := 155) hE dL_areAlike_151 (by decide) ?_
          cases hq20
          exact gl_fg [true, true, true, true, true, false, true] (by omega) kq20
set_option maxRecDepth 100000 in
set_option maxHeartbeats 4000000 in
theorem ok_L_areAlike {G : jv_G} {l : Launch} (hl0 : l.stackTraces = false) {τ : jv_S × jv_S} {p1 : Int32} {r : Bool × jv_S × jv_S} (h : f_L_areAlike τ p1 = some r) : gl_M0 gl_2 G l 21 M_L_areAlike (gl_cd M_L_areAlike) [.ref 0, .ref 35, .int p1] τ (jv_b r.1) r.2 30 := by
  refine gl_of (L0 := [some (.ref 0), some (.ref 35), some (.int p1), none, none, none, none]) (Or.inl rfl) (by decide +kernel) (Nat.le_of_ble_eq_true rfl) rfl (jv_okZ _) (fun _ _ h => h.1) (fun E e1 e2 hE hT hret => ?_)
  subst e1; subst e2
  unfold f_L_areAlike at h
  refine gl_iload_n (x := p1) (pc' := 1) hE dL_areAlike_0 rfl 2 rfl rfl ?_
  refine gl_aload_n (x := 0) (pc' := 2) hE dL_areAlike_1 rfl 0 rfl rfl ?_
  refine gl_callV (k1 := 0) (o := some (.int (f_X7_nodes τ.1))) (As := []) (As1 := []) (gg := (fun G => G)) (pc' := 5) hE (fun _ => gl_sL) dL_areAlike_2 rfl lV_L_103 (ok_X7_nodes rfl) (fun _ => rfl) (fun _ => rfl) (fun _ => rfl) (fun _ => rfl) rfl rfl rfl (by decide) rfl (Nat.le_of_ble_eq_true rfl) (by omega) ?_
  show gl_V gl_2 E 0 5 [some (.ref 0), some (.ref 35), some (.int p1), none, none, none, none] [.int (f_X7_nodes τ.1), .int p1] τ
  obtain ⟨q1, hq1, h⟩ := jv_bd_some h
  refine gl_callS1 (o := some (.int q1)) (As := [.int p1, .int (f_X7_nodes τ.1)]) (As1 := [.int p1, .int (f_X7_nodes τ.1)]) (gg := (fun G => G)) (pc' := 8) hE (fun _ => gl_sL) dL_areAlike_5 rfl lS_L_100 (ok_L_low hq1) (fun _ => rfl) (fun _ => rfl) rfl (by decide) rfl (Nat.le_of_ble_eq_true rfl) (by omega) ?_
  show gl_V gl_2 E 0 8 [some (.ref 0), some (.ref 35), some (.int p1), none, none, none, none] [.int q1] τ
  refine gl_istore_n (x := q1) (L' := [some (.ref 0), some (.ref 35), some (.int p1), some (.int q1), none, none, none]) (pc' := 9) hE dL_areAlike_8 rfl 3 rfl (by decide) rfl rfl ?_
  refine gl_iload_n (x := p1) (pc' := 10) hE dL_areAlike_9 rfl 2 rfl rfl ?_
  refine gl_iconst (v := (4 : Int32)) (pc' := 11) hE dL_areAlike_10 rfl (by decide) ?_
  refine gl_ishr (x := p1) (y := (4 : Int32)) (pc' := 12) hE dL_areAlike_11 rfl ?_
  refine gl_aload_n (x := 0) (pc' := 13) hE dL_areAlike_12 rfl 0 rfl rfl ?_
  refine gl_callV (k1 := 0) (o := some (.int (f_X7_nodes τ.1))) (As := []) (As1 := []) (gg := (fun G => G)) (pc' := 16) hE (fun _ => gl_sL) dL_areAlike_13 rfl lV_L_103 (ok_X7_nodes rfl) (fun _ => rfl) (fun _ => rfl) (fun _ => rfl) (fun _ => rfl) rfl rfl rfl (by decide) rfl (Nat.le_of_ble_eq_true rfl) (by omega) ?_
  show gl_V gl_2 E 0 16 [some (.ref 0), some (.ref 35), some (.int p1), some (.int q1), none, none, none] [.int (f_X7_nodes τ.1), .int (p1 >>> ((4 : Int32) &&& 31))] τ
  obtain ⟨q2, hq2, h⟩ := jv_bd_some h
  refine gl_callS1 (o := some (.int q2)) (As := [.int (p1 >>> ((4 : Int32) &&& 31)), .int (f_X7_nodes τ.1)]) (As1 := [.int (p1 >>> ((4 : Int32) &&& 31)), .int (f_X7_nodes τ.1)]) (gg := (fun G => G)) (pc' := 19) hE (fun _ => gl_sL) dL_areAlike_16 rfl lS_L_100 (ok_L_low hq2) (fun _ => rfl) (fun _ => rfl) rfl (by decide) rfl (Nat.le_of_ble_eq_true rfl) (by omega) ?_
  show gl_V gl_2 E 0 19 [some (.ref 0), some (.ref 35), some (.int p1), some (.int q1), none, none, none] [.int q2] τ
  refine gl_istore (x := q2) (L' := [some (.ref 0), some (.ref 35), some (.int p1), some (.int q1), some (.int q2), none, none]) (pc' := 21) hE dL_areAlike_19 rfl (by decide) rfl rfl ?_
  refine gl_aload_n (x := 0) (pc' := 22) hE dL_areAlike_21 rfl 0 rfl rfl ?_
  refine gl_callV (k1 := 0) (o := some (.int (f_X7_nodes τ.1))) (As := []) (As1 := []) (gg := (fun G => G)) (pc' := 25) hE (fun _ => gl_sL) dL_areAlike_22 rfl lV_L_103 (ok_X7_nodes rfl) (fun _ => rfl) (fun _ => rfl) (fun _ => rfl) (fun _ => rfl) rfl rfl rfl (by decide) rfl (Nat.le_of_ble_eq_true rfl) (by omega) ?_
  show gl_V gl_2 E 0 25 [some (.ref 0), some (.ref 35), some (.int p1), some (.int q1), some (.int q2), none, none] [.int (f_X7_nodes τ.1)] τ
  refine gl_aload_n (x := 35) (pc' := 26) hE dL_areAlike_25 rfl 1 rfl rfl ?_
  refine gl_callV (k1 := 0) (o := some (.int (f_X7_nodes τ.2))) (As := []) (As1 := []) (gg := jv_rt) (pc' := 29) hE (fun _ => gl_sR) dL_areAlike_26 rfl lV_L_103 (ok_X7_nodes rfl) (fun _ => rfl) (fun _ => rfl) (fun _ => rfl) (fun _ => rfl) rfl rfl rfl (by decide) rfl (Nat.le_of_ble_eq_true rfl) (by omega) ?_
  show gl_V gl_2 E 0 29 [some (.ref 0), some (.ref 35), some (.int p1), some (.int q1), some (.int q2), none, none] [.int (f_X7_nodes τ.2), .int (f_X7_nodes τ.1)] τ
  obtain ⟨q4, hq4, h⟩ := jv_lt_eq h
  have kq4 : gl_V gl_2 E 0 59 [some (.ref 0), some (.ref 35), none, some (.int q1), some (.int q2), none, none] [.int (jv_b q4)] τ := by
    refine gl_istore (x := (jv_b q4)) (L' := [some (.ref 0), some (.ref 35), none, some (.int q1), some (.int q2), some (.int (jv_b q4)), none]) (pc' := 61) hE dL_areAlike_59 rfl (by decide) rfl rfl ?_
    refine gl_iconst (v := (1 : Int32)) (pc' := 62) hE dL_areAlike_61 rfl (by decide) ?_
    refine gl_istore (x := (1 : Int32)) (L' := [some (.ref 0), some (.ref 35), none, some (.int q1), some (.int q2), some (.int (jv_b q4)), some (.int (1 : Int32))]) (pc' := 64) hE dL_areAlike_62 rfl (by decide) rfl rfl ?_
    obtain ⟨q14, hq14, h⟩ := jv_bd_some h
    refine gl_fg [true, true, true, true, true, true, true] (Nat.le_refl _) (lp_L_areAlike_64 hl0 hE 8 q4 (1 : Int32) τ _ hq14 _ (V := 16) (by omega) (by omega) (fun z hz => ?_))
    subst hz
    refine gl_iconst (v := (0 : Int32)) (pc' := 113) hE dL_areAlike_112 rfl (by decide) ?_
    refine gl_istore (x := (0 : Int32)) (L' := [some (.ref 0), some (.ref 35), none, some (.int q1), some (.int q2), some (.int (jv_b q14.1)), some (.int (0 : Int32))]) (pc' := 115) hE dL_areAlike_113 rfl (by decide) rfl rfl ?_
    obtain ⟨q21, hq21, h⟩ := jv_bd_some h
    refine gl_fg [true, true, true, true, true, true, true] (Nat.le_refl _) (lp_L_areAlike_115 hl0 hE 7 q14.1 (0 : Int32) q14.2.2 _ hq21 _ (V := 30) (by omega) (by omega) (fun z hz => ?_))
    subst hz
    refine gl_iload (x := (jv_b q21.1)) (pc' := 165) hE dL_areAlike_163 rfl rfl ?_
    cases h
    exact hret _ _ _ (by omega) dL_areAlike_165
  refine gl_icmp_ne (x := (f_X7_nodes τ.1)) (y := (f_X7_nodes τ.2)) (tgt := 58) (pc' := 32) hE dL_areAlike_29 (by decide) rfl (fun c3 => ?_) (fun c3 => ?_)
  · rw [if_neg c3] at hq4
    refine gl_iconst (v := (0 : Int32)) (pc' := 59) hE dL_areAlike_58 rfl (by decide) ?_
    cases hq4
    exact gl_fg [true, true, false, true, true, true, true] (by omega) kq4
  · rw [if_pos c3] at hq4
    refine gl_aload_n (x := 0) (pc' := 33) hE dL_areAlike_32 rfl 0 rfl rfl ?_
    refine gl_callV (k1 := 0) (o := some (.int (f_X7_edges τ.1))) (As := []) (As1 := []) (gg := (fun G => G)) (pc' := 36) hE (fun _ => gl_sL) dL_areAlike_33 rfl lV_L_106 (ok_X7_edges rfl) (fun _ => rfl) (fun _ => rfl) (fun _ => rfl) (fun _ => rfl) rfl rfl rfl (by decide) rfl (Nat.le_of_ble_eq_true rfl) (by omega) ?_
    show gl_V gl_2 E 0 36 [some (.ref 0), some (.ref 35), some (.int p1), some (.int q1), some (.int q2), none, none] [.int (f_X7_edges τ.1)] τ
    refine gl_aload_n (x := 35) (pc' := 37) hE dL_areAlike_36 rfl 1 rfl rfl ?_
    refine gl_callV (k1 := 0) (o := some (.int (f_X7_edges τ.2))) (As := []) (As1 := []) (gg := jv_rt) (pc' := 40) hE (fun _ => gl_sR) dL_areAlike_37 rfl lV_L_106 (ok_X7_edges rfl) (fun _ => rfl) (fun _ => rfl) (fun _ => rfl) (fun _ => rfl) rfl rfl rfl (by decide) rfl (Nat.le_of_ble_eq_true rfl) (by omega) ?_
    show gl_V gl_2 E 0 40 [some (.ref 0), some (.ref 35), some (.int p1), some (.int q1), some (.int q2), none, none] [.int (f_X7_edges τ.2), .int (f_X7_edges τ.1)] τ
    refine gl_icmp_ne (x := (f_X7_edges τ.1)) (y := (f_X7_edges τ.2)) (tgt := 58) (pc' := 43) hE dL_areAlike_40 (by decide) rfl (fun c5 => ?_) (fun c5 => ?_)
    · rw [if_neg c5] at hq4
      refine gl_iconst (v := (0 : Int32)) (pc' := 59) hE dL_areAlike_58 rfl (by decide) ?_
      cases hq4
      exact gl_fg [true, true, false, true, true, true, true] (by omega) kq4
    · rw [if_pos c5] at hq4
      refine gl_aload_n (x := 0) (pc' := 44) hE dL_areAlike_43 rfl 0 rfl rfl ?_
      refine gl_callV (k1 := 0) (o := some (.int (f_X7_usableEdges τ.1))) (As := []) (As1 := []) (gg := (fun G => G)) (pc' := 47) hE (fun _ => gl_sL) dL_areAlike_44 rfl lV_L_122 (ok_X7_usableEdges rfl) (fun _ => rfl) (fun _ => rfl) (fun _ => rfl) (fun _ => rfl) rfl rfl rfl (by decide) rfl (Nat.le_of_ble_eq_true rfl) (by omega) ?_
      show gl_V gl_2 E 0 47 [some (.ref 0), some (.ref 35), some (.int p1), some (.int q1), some (.int q2), none, none] [.int (f_X7_usableEdges τ.1)] τ
      refine gl_aload_n (x := 35) (pc' := 48) hE dL_areAlike_47 rfl 1 rfl rfl ?_
      refine gl_callV (k1 := 0) (o := some (.int (f_X7_usableEdges τ.2))) (As := []) (As1 := []) (gg := jv_rt) (pc' := 51) hE (fun _ => gl_sR) dL_areAlike_48 rfl lV_L_122 (ok_X7_usableEdges rfl) (fun _ => rfl) (fun _ => rfl) (fun _ => rfl) (fun _ => rfl) rfl rfl rfl (by decide) rfl (Nat.le_of_ble_eq_true rfl) (by omega) ?_
      show gl_V gl_2 E 0 51 [some (.ref 0), some (.ref 35), some (.int p1), some (.int q1), some (.int q2), none, none] [.int (f_X7_usableEdges τ.2), .int (f_X7_usableEdges τ.1)] τ
      refine gl_icmp_ne (x := (f_X7_usableEdges τ.1)) (y := (f_X7_usableEdges τ.2)) (tgt := 58) (pc' := 54) hE dL_areAlike_51 (by decide) rfl (fun c6 => ?_) (fun c6 => ?_)
      · rw [if_neg c6] at hq4
        refine gl_iconst (v := (0 : Int32)) (pc' := 59) hE dL_areAlike_58 rfl (by decide) ?_
        cases hq4
        exact gl_fg [true, true, false, true, true, true, true] (by omega) kq4
      · rw [if_pos c6] at hq4
        refine gl_iconst (v := (1 : Int32)) (pc' := 55) hE dL_areAlike_54 rfl (by decide) ?_
        refine gl_goto (tgt := 59) hE dL_areAlike_55 (by decide) ?_
        cases hq4
        exact gl_fg [true, true, false, true, true, true, true] (by omega) kq4
