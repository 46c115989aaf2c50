noncomputable def f_L_arePathsSo_lp33 (a1 : Int32) (a2 : Int32) (a3 : Int32) : Nat → Int32 → Bool → Int32 → jv_S → Option ((Bool × jv_S) ⊕ (Int32 × Bool × Int32 × jv_S))
  | 0, _, _, _, _ => none
  | n + 1, v4, v5, v6, σ => if (12 : Int32) ≤ v6 then (some (.inr (v4, v5, v6, σ))) else (if v5 = true then (jv_bd (f_L_draws σ (0 : Int32) (0 : Int32)) (fun q8 => if v6 < a3 then (jv_bd (if q8.1 < v4 then (some (false, q8.2)) else (if q8.1 ≤ 0 then (some (false, q8.2)) else (jv_bd (f_X7_pathEdges q8.2) (fun q13 => jv_xe q13 (fun e0 => none) (fun v14 => if v14 < (1 : Int32) then (some (false, q8.2)) else (jv_bd (f_X7_pathEdges q8.2) (fun q16 => jv_xe q16 (fun e0 => none) (fun v17 => if (f_X7_nodes q8.2) ≤ v17 then (some (false, q8.2)) else (jv_lt (f_X7_pathsDrawn q8.2) (fun q19 => jv_xe q19 (fun e0 => none) (fun v20 => if v20 = (v6 + (1 : Int32)) then (if 0 < v6 then (jv_bd (f_X7_countPaths q8.2 a1 a2 q8.1) (fun q23 => (fun (q23a : Except String Int32) (q23b : jv_S) => jv_xe q23a (fun e0 => none) (fun v24 => if v24 ≤ v6 then (some (false, q23b)) else (jv_bd (f_X7_countPaths q23b a1 a2 (q8.1 - (1 : Int32))) (fun q26 => (fun (q26a : Except String Int32) (q26b : jv_S) => jv_xe q26a (fun e0 => none) (fun v27 => if v6 < v27 then (some (false, q26b)) else (some (true, q26b)))) q26.1 q26.2)))) q23.1 q23.2)) else (jv_bd (f_L_asks q8.2 (0 : Int32) a1 a2 (0 : Int32)) (fun q29 => if q8.1 = q29.1 then (jv_bd (f_X7_countPaths q29.2 a1 a2 q8.1) (fun q31 => (fun (q31a : Except String Int32) (q31b : jv_S) => jv_xe q31a (fun e0 => none) (fun v32 => if v32 ≤ v6 then (some (false, q31b)) else (jv_bd (f_X7_countPaths q31b a1 a2 (q8.1 - (1 : Int32))) (fun q34 => (fun (q34a : Except String Int32) (q34b : jv_S) => jv_xe q34a (fun e0 => none) (fun v35 => if v6 < v35 then (some (false, q34b)) else (some (true, q34b)))) q34.1 q34.2)))) q31.1 q31.2)) else (some (false, q29.2))))) else (some (false, q8.2))))))))))))) (fun q11 => f_L_arePathsSo_lp33 a1 a2 a3 n q8.1 q11.1 (v6 + (1 : Int32)) q11.2)) else (if q8.1 = (-99998 : Int32) then (jv_lt (f_X7_pathsDrawn q8.2) (fun q38 => jv_xe q38 (fun e0 => none) (fun v39 => if v39 = a3 then (if 0 < a3 then (some (.inl (true, q8.2))) else (jv_bd (f_L_asks q8.2 (0 : Int32) a1 a2 (0 : Int32)) (fun q42 => if q42.1 = (-99998 : Int32) then (some (.inl (true, q42.2))) else (some (.inl (false, q42.2)))))) else (some (.inl (false, q8.2)))))) else (some (.inl (false, q8.2)))))) else (some (.inr (v4, v5, v6, σ))))
noncomputable def f_L_arePathsSo (σ : jv_S) (p1 : Int32) (p2 : Int32) : Option (Bool × jv_S) := jv_bd (f_X7_countPaths σ p1 p2 (100000 : Int32)) (fun q1 => (fun (q1a : Except String Int32) (q1b : jv_S) => jv_xe q1a (fun e0 => none) (fun v2 => jv_bd (f_L_starts q1b (1 : Int32) p1 p2) (fun q3 => jv_lt (if q3.1 = (1 : Int32) then (true) else (false)) (fun q5 => jv_bd (f_L_arePathsSo_lp33 p1 p2 v2 13 (0 : Int32) q5 (0 : Int32) q3.2) (fun q44 => Sum.elim (fun q44 => some q44) (fun q44 => some (q44.2.1, q44.2.2.2)) q44))))) q1.1 q1.2)
set_option maxRecDepth 100000 in
set_option maxHeartbeats 4000000 in
theorem lp_L_arePathsSo_33 {E : jv_E} {NN V : Nat} (hl0 : (jv_l E).stackTraces = false) (hE : gl_C gl_1 E RL cL_arePathsSo 8 21 NN) {a1 : Int32} {a2 : Int32} {a3 : Int32} : ∀ (n : Nat) (v4 : Int32) (v5 : Bool) (v6 : Int32) (σ : jv_S) (r : (Bool × jv_S) ⊕ (Int32 × Bool × Int32 × jv_S)), f_L_arePathsSo_lp33 a1 a2 a3 n v4 v5 v6 σ = some r → ∀ u : Nat, u + 2 * n ≤ V → V ≤ NN → (∀ q, r = .inr q → gl_V gl_1 E V 202 [none, none, none, none, none, some (.int (jv_b q.2.1)), none, none] [] q.2.2.2) → (∀ q, r = .inl q → gl_Rt gl_1 E NN cL_arePathsSo (jv_b q.1) q.2) → gl_V gl_1 E u 33 [some (.ref 0), some (.int a1), some (.int a2), some (.int a3), some (.int v4), some (.int (jv_b v5)), some (.int v6), none] [] σ := by
  intro n
  induction n with
  | zero =>
    intro v4 v5 v6 σ r h
    rw [f_L_arePathsSo_lp33] at h
    cases h
  | succ n ih =>
    intro v4 v5 v6 σ r h u hu hV hk hr
    rw [f_L_arePathsSo_lp33] at h
    refine gl_iload (x := v6) (pc' := 35) hE dL_arePathsSo_33 rfl rfl ?_
    refine gl_bipush (v := (12 : Int32)) (pc' := 37) hE dL_arePathsSo_35 rfl (by decide) ?_
    refine gl_icmp_ge (x := v6) (y := (12 : Int32)) (tgt := 202) (pc' := 40) hE dL_arePathsSo_37 (by decide) rfl (fun c6 => ?_) (fun c6 => ?_)
    · rw [if_pos c6] at h
      cases h
      exact gl_fg [false, false, false, false, false, true, false, true] (by omega) (hk (v4, v5, v6, σ) rfl)
    · rw [if_neg c6] at h
      refine gl_iload (x := (jv_b v5)) (pc' := 42) hE dL_arePathsSo_40 rfl rfl ?_
      refine gl_if_eq (x := (jv_b v5)) (tgt := 202) (pc' := 45) hE dL_arePathsSo_42 (by decide) rfl (fun c7 => ?_) (fun c7 => ?_)
      · have c7 := jv_b0 c7
        rw [if_neg c7] at h
        cases h
        exact gl_fg [false, false, false, false, false, true, false, true] (by omega) (hk (v4, v5, v6, σ) rfl)
      · have c7 := jv_b1 c7
        rw [if_pos c7] at h
        refine gl_aload_n (x := 0) (pc' := 46) hE dL_arePathsSo_45 rfl 0 rfl rfl ?_
        refine gl_iconst (v := (0 : Int32)) (pc' := 47) hE dL_arePathsSo_46 rfl (by decide) ?_
        refine gl_iconst (v := (0 : Int32)) (pc' := 48) hE dL_arePathsSo_47 rfl (by decide) ?_
        obtain ⟨q8, hq8, h⟩ := jv_bd_some h
        refine gl_callW (As := [.ref 0, .int (0 : Int32), .int (0 : Int32)]) (As1 := [.ref 0, .int (0 : Int32), .int (0 : Int32)]) (gg := (fun G => G)) (pc' := 51) (v := q8.1) hE (fun _ => gl_s1) gl_b1 dL_arePathsSo_48 rfl lK_L_119 (ok_L_draws hl0 hq8) (fun _ => rfl) rfl (by decide) rfl (Nat.le_of_ble_eq_true rfl) (by omega) ?_
        show gl_V gl_1 E (u + 1) 51 [some (.ref 0), some (.int a1), some (.int a2), some (.int a3), some (.int v4), some (.int (jv_b v5)), some (.int v6), none] [.int q8.1] q8.2
        refine gl_istore (x := q8.1) (L' := [some (.ref 0), some (.int a1), some (.int a2), some (.int a3), some (.int v4), some (.int (jv_b v5)), some (.int v6), some (.int q8.1)]) (pc' := 53) hE dL_arePathsSo_51 rfl (by decide) rfl rfl ?_
        refine gl_iload (x := v6) (pc' := 55) hE dL_arePathsSo_53 rfl rfl ?_
        refine gl_iload_n (x := a3) (pc' := 56) hE dL_arePathsSo_55 rfl 3 rfl rfl ?_
        refine gl_icmp_lt (x := v6) (y := a3) (tgt := 97) (pc' := 59) hE dL_arePathsSo_56 (by decide) rfl (fun c9 => ?_) (fun c9 => ?_)
        · rw [if_pos c9] at h
          refine gl_iload (x := q8.1) (pc' := 99) hE dL_arePathsSo_97 rfl rfl ?_
          refine gl_iload (x := v4) (pc' := 101) hE dL_arePathsSo_99 rfl rfl ?_
          obtain ⟨q11, hq11, h⟩ := jv_bd_some h
          have kq11 : gl_V gl_1 E (u + 2) 190 [some (.ref 0), some (.int a1), some (.int a2), some (.int a3), none, none, some (.int v6), some (.int q8.1)] [.int (jv_b q11.1)] q11.2 := by
            refine gl_istore (x := (jv_b q11.1)) (L' := [some (.ref 0), some (.int a1), some (.int a2), some (.int a3), none, some (.int (jv_b q11.1)), some (.int v6), some (.int q8.1)]) (pc' := 192) hE dL_arePathsSo_190 rfl (by decide) rfl rfl ?_
            refine gl_iload (x := q8.1) (pc' := 194) hE dL_arePathsSo_192 rfl rfl ?_
            refine gl_istore (x := q8.1) (L' := [some (.ref 0), some (.int a1), some (.int a2), some (.int a3), some (.int q8.1), some (.int (jv_b q11.1)), some (.int v6), some (.int q8.1)]) (pc' := 196) hE dL_arePathsSo_194 rfl (by decide) rfl rfl ?_
            refine gl_iinc (x := v6) (v := (v6 + (1 : Int32))) (L' := [some (.ref 0), some (.int a1), some (.int a2), some (.int a3), some (.int q8.1), some (.int (jv_b q11.1)), some (.int (v6 + (1 : Int32))), some (.int q8.1)]) (pc' := 199) hE dL_arePathsSo_196 rfl rfl rfl (by decide) rfl rfl ?_
            refine gl_goto (tgt := 33) hE dL_arePathsSo_199 (by decide) ?_
            exact gl_fg [true, true, true, true, true, true, true, false] (Nat.le_refl _) (ih q8.1 q11.1 (v6 + (1 : Int32)) q11.2 _ h _ (by omega) hV hk hr)
          refine gl_icmp_lt (x := q8.1) (y := v4) (tgt := 189) (pc' := 104) hE dL_arePathsSo_101 (by decide) rfl (fun c10 => ?_) (fun c10 => ?_)
          · rw [if_pos c10] at hq11
            refine gl_iconst (v := (0 : Int32)) (pc' := 190) hE dL_arePathsSo_189 rfl (by decide) ?_
            cases hq11
            exact gl_fg [true, true, true, true, false, false, true, true] (by omega) kq11
          · rw [if_neg c10] at hq11
            refine gl_iload (x := q8.1) (pc' := 106) hE dL_arePathsSo_104 rfl rfl ?_
            refine gl_if_le (x := q8.1) (tgt := 189) (pc' := 109) hE dL_arePathsSo_106 (by decide) rfl (fun c12 => ?_) (fun c12 => ?_)
            · rw [if_pos c12] at hq11
              refine gl_iconst (v := (0 : Int32)) (pc' := 190) hE dL_arePathsSo_189 rfl (by decide) ?_
              cases hq11
              exact gl_fg [true, true, true, true, false, false, true, true] (by omega) kq11
            · rw [if_neg c12] at hq11
              refine gl_aload_n (x := 0) (pc' := 110) hE dL_arePathsSo_109 rfl 0 rfl rfl ?_
              obtain ⟨q13, hq13, hq11⟩ := jv_bd_some hq11
              have zq13 := jv_xe_or hq11
              clear hq11
              rcases zq13 with ⟨e0, eq13, hq11⟩ | ⟨v14, eq13, hq11⟩
              · cases hq11
              · subst eq13
                refine gl_callV (k1 := 0) (o := some (.int v14)) (As := []) (As1 := []) (gg := (fun G => G)) (pc' := 113) hE (fun _ => gl_s1) dL_arePathsSo_110 rfl lV_L_62 (ok_X7_pathEdges hq13) (fun _ => rfl) (fun _ => rfl) (fun _ => rfl) (fun _ => rfl) rfl rfl rfl (by decide) rfl (Nat.le_of_ble_eq_true rfl) (by omega) ?_
                show gl_V gl_1 E (u + 1) 113 [some (.ref 0), some (.int a1), some (.int a2), some (.int a3), some (.int v4), some (.int (jv_b v5)), some (.int v6), some (.int q8.1)] [.int v14] q8.2
                refine gl_iconst (v := (1 : Int32)) (pc' := 114) hE dL_arePathsSo_113 rfl (by decide) ?_
                refine gl_icmp_lt (x := v14) (y := (1 : Int32)) (tgt := 189) (pc' := 117) hE dL_arePathsSo_114 (by decide) rfl (fun c15 => ?_) (fun c15 => ?_)
                · rw [if_pos c15] at hq11
                  refine gl_iconst (v := (0 : Int32)) (pc' := 190) hE dL_arePathsSo_189 rfl (by decide) ?_
                  cases hq11
                  exact gl_fg [true, true, true, true, false, false, true, true] (by omega) kq11
                · rw [if_neg c15] at hq11
                  refine gl_aload_n (x := 0) (pc' := 118) hE dL_arePathsSo_117 rfl 0 rfl rfl ?_
                  obtain ⟨q16, hq16, hq11⟩ := jv_bd_some hq11
                  have zq16 := jv_xe_or hq11
                  clear hq11
                  rcases zq16 with ⟨e0, eq16, hq11⟩ | ⟨v17, eq16, hq11⟩
                  · cases hq11
                  · subst eq16
                    refine gl_callV (k1 := 0) (o := some (.int v17)) (As := []) (As1 := []) (gg := (fun G => G)) (pc' := 121) hE (fun _ => gl_s1) dL_arePathsSo_118 rfl lV_L_62 (ok_X7_pathEdges hq16) (fun _ => rfl) (fun _ => rfl) (fun _ => rfl) (fun _ => rfl) rfl rfl rfl (by decide) rfl (Nat.le_of_ble_eq_true rfl) (by omega) ?_
                    show gl_V gl_1 E (u + 1) 121 [some (.ref 0), some (.int a1), some (.int a2), some (.int a3), some (.int v4), some (.int (jv_b v5)), some (.int v6), some (.int q8.1)] [.int v17] q8.2
                    refine gl_aload_n (x := 0) (pc' := 122) hE dL_arePathsSo_121 rfl 0 rfl rfl ?_
                    refine gl_callV (k1 := 0) (o := some (.int (f_X7_nodes q8.2))) (As := []) (As1 := []) (gg := (fun G => G)) (pc' := 125) hE (fun _ => gl_s1) dL_arePathsSo_122 rfl lV_L_103 (ok_X7_nodes rfl) (fun _ => rfl) (fun _ => rfl) (fun _ => rfl) (fun _ => rfl) rfl rfl rfl (by decide) rfl (Nat.le_of_ble_eq_true rfl) (by omega) ?_
                    show gl_V gl_1 E (u + 1) 125 [some (.ref 0), some (.int a1), some (.int a2), some (.int a3), some (.int v4), some (.int (jv_b v5)), some (.int v6), some (.int q8.1)] [.int (f_X7_nodes q8.2), .int v17] q8.2
                    refine gl_icmp_ge (x := v17) (y := (f_X7_nodes q8.2)) (tgt := 189) (pc' := 128) hE dL_arePathsSo_125 (by decide) rfl (fun c18 => ?_) (fun c18 => ?_)
                    · rw [if_pos c18] at hq11
                      refine gl_iconst (v := (0 : Int32)) (pc' := 190) hE dL_arePathsSo_189 rfl (by decide) ?_
                      cases hq11
                      exact gl_fg [true, true, true, true, false, false, true, true] (by omega) kq11
                    · rw [if_neg c18] at hq11
                      refine gl_aload_n (x := 0) (pc' := 129) hE dL_arePathsSo_128 rfl 0 rfl rfl ?_
                      obtain ⟨q19, hq19, hq11⟩ := jv_lt_eq hq11
                      have zq19 := jv_xe_or hq11
                      clear hq11
                      rcases zq19 with ⟨e0, eq19, hq11⟩ | ⟨v20, eq19, hq11⟩
                      · cases hq11
                      · subst eq19
                        refine gl_callV (k1 := 0) (o := some (.int v20)) (As := []) (As1 := []) (gg := (fun G => G)) (pc' := 132) hE (fun _ => gl_s1) dL_arePathsSo_129 rfl lV_L_59 (ok_X7_pathsDrawn hq19) (fun _ => rfl) (fun _ => rfl) (fun _ => rfl) (fun _ => rfl) rfl rfl rfl (by decide) rfl (Nat.le_of_ble_eq_true rfl) (by omega) ?_
                        show gl_V gl_1 E (u + 1) 132 [some (.ref 0), some (.int a1), some (.int a2), some (.int a3), some (.int v4), some (.int (jv_b v5)), some (.int v6), some (.int q8.1)] [.int v20] q8.2
                        refine gl_iload (x := v6) (pc' := 134) hE dL_arePathsSo_132 rfl rfl ?_
                        refine gl_iconst (v := (1 : Int32)) (pc' := 135) hE dL_arePathsSo_134 rfl (by decide) ?_
                        refine gl_iadd (x := v6) (y := (1 : Int32)) (pc' := 136) hE dL_arePathsSo_135 rfl ?_
                        refine gl_icmp_ne (x := v20) (y := (v6 + (1 : Int32))) (tgt := 189) (pc' := 139) hE dL_arePathsSo_136 (by decide) rfl (fun c21 => ?_) (fun c21 => ?_)
                        · rw [if_neg c21] at hq11
                          refine gl_iconst (v := (0 : Int32)) (pc' := 190) hE dL_arePathsSo_189 rfl (by decide) ?_
                          cases hq11
                          exact gl_fg [true, true, true, true, false, false, true, true] (by omega) kq11
                        · rw [if_pos c21] at hq11
                          refine gl_iload (x := v6) (pc' := 141) hE dL_arePathsSo_139 rfl rfl ?_
                          refine gl_if_gt (x := v6) (tgt := 157) (pc' := 144) hE dL_arePathsSo_141 (by decide) rfl (fun c22 => ?_) (fun c22 => ?_)
                          · rw [if_pos c22] at hq11
                            refine gl_aload_n (x := 0) (pc' := 158) hE dL_arePathsSo_157 rfl 0 rfl rfl ?_
                            refine gl_iload_n (x := a1) (pc' := 159) hE dL_arePathsSo_158 rfl 1 rfl rfl ?_
                            refine gl_iload_n (x := a2) (pc' := 160) hE dL_arePathsSo_159 rfl 2 rfl rfl ?_
                            refine gl_iload (x := q8.1) (pc' := 162) hE dL_arePathsSo_160 rfl rfl ?_
                            obtain ⟨⟨q23a, q23b⟩, hq23, hq11⟩ := jv_bd_some hq11
                            dsimp only at hq11
                            have zq23 := jv_xe_or hq11
                            clear hq11
                            rcases zq23 with ⟨e0, eq23, hq11⟩ | ⟨v24, eq23, hq11⟩
                            · cases hq11
                            · subst eq23
                              refine gl_callV (k1 := 0) (o := some (.int v24)) (As := [.int a1, .int a2, .int q8.1]) (As1 := [.int a1, .int a2, .int q8.1]) (gg := (fun G => G)) (pc' := 165) hE (fun _ => gl_s1) dL_arePathsSo_162 rfl lV_L_130 (ok_X7_countPaths hq23) (fun _ => rfl) (fun _ => rfl) (fun _ => rfl) (fun _ => rfl) rfl rfl rfl (by decide) rfl (Nat.le_of_ble_eq_true rfl) (by omega) ?_
                              show gl_V gl_1 E (u + 1) 165 [some (.ref 0), some (.int a1), some (.int a2), some (.int a3), some (.int v4), some (.int (jv_b v5)), some (.int v6), some (.int q8.1)] [.int v24] q23b
                              refine gl_iload (x := v6) (pc' := 167) hE dL_arePathsSo_165 rfl rfl ?_
                              refine gl_icmp_le (x := v24) (y := v6) (tgt := 189) (pc' := 170) hE dL_arePathsSo_167 (by decide) rfl (fun c25 => ?_) (fun c25 => ?_)
                              · rw [if_pos c25] at hq11
                                refine gl_iconst (v := (0 : Int32)) (pc' := 190) hE dL_arePathsSo_189 rfl (by decide) ?_
                                cases hq11
                                exact gl_fg [true, true, true, true, false, false, true, true] (by omega) kq11
                              · rw [if_neg c25] at hq11
                                refine gl_aload_n (x := 0) (pc' := 171) hE dL_arePathsSo_170 rfl 0 rfl rfl ?_
                                refine gl_iload_n (x := a1) (pc' := 172) hE dL_arePathsSo_171 rfl 1 rfl rfl ?_
                                refine gl_iload_n (x := a2) (pc' := 173) hE dL_arePathsSo_172 rfl 2 rfl rfl ?_
                                refine gl_iload (x := q8.1) (pc' := 175) hE dL_arePathsSo_173 rfl rfl ?_
                                refine gl_iconst (v := (1 : Int32)) (pc' := 176) hE dL_arePathsSo_175 rfl (by decide) ?_
                                refine gl_isub (x := q8.1) (y := (1 : Int32)) (pc' := 177) hE dL_arePathsSo_176 rfl ?_
                                obtain ⟨⟨q26a, q26b⟩, hq26, hq11⟩ := jv_bd_some hq11
                                dsimp only at hq11
                                have zq26 := jv_xe_or hq11
                                clear hq11
                                rcases zq26 with ⟨e0, eq26, hq11⟩ | ⟨v27, eq26, hq11⟩
                                · cases hq11
                                · subst eq26
                                  refine gl_callV (k1 := 0) (o := some (.int v27)) (As := [.int a1, .int a2, .int (q8.1 - (1 : Int32))]) (As1 := [.int a1, .int a2, .int (q8.1 - (1 : Int32))]) (gg := (fun G => G)) (pc' := 180) hE (fun _ => gl_s1) dL_arePathsSo_177 rfl lV_L_130 (ok_X7_countPaths hq26) (fun _ => rfl) (fun _ => rfl) (fun _ => rfl) (fun _ => rfl) rfl rfl rfl (by decide) rfl (Nat.le_of_ble_eq_true rfl) (by omega) ?_
                                  show gl_V gl_1 E (u + 1) 180 [some (.ref 0), some (.int a1), some (.int a2), some (.int a3), some (.int v4), some (.int (jv_b v5)), some (.int v6), some (.int q8.1)] [.int v27] q26b
                                  refine gl_iload (x := v6) (pc' := 182) hE dL_arePathsSo_180 rfl rfl ?_
                                  refine gl_icmp_gt (x := v27) (y := v6) (tgt := 189) (pc' := 185) hE dL_arePathsSo_182 (by decide) rfl (fun c28 => ?_) (fun c28 => ?_)
                                  · rw [if_pos c28] at hq11
                                    refine gl_iconst (v := (0 : Int32)) (pc' := 190) hE dL_arePathsSo_189 rfl (by decide) ?_
                                    cases hq11
                                    exact gl_fg [true, true, true, true, false, false, true, true] (by omega) kq11
                                  · rw [if_neg c28] at hq11
                                    refine gl_iconst (v := (1 : Int32)) (pc' := 186) hE dL_arePathsSo_185 rfl (by decide) ?_
                                    refine gl_goto (tgt := 190) hE dL_arePathsSo_186 (by decide) ?_
                                    cases hq11
                                    exact gl_fg [true, true, true, true, false, false, true, true] (by omega) kq11
                          · rw [if_neg c22] at hq11
                            refine gl_iload (x := q8.1) (pc' := 146) hE dL_arePathsSo_144 rfl rfl ?_
                            refine gl_aload_n (x := 0) (pc' := 147) hE dL_arePathsSo_146 rfl 0 rfl rfl ?_
                            refine gl_iconst (v := (0 : Int32)) (pc' := 148) hE dL_arePathsSo_147 rfl (by decide) ?_
                            refine gl_iload_n (x := a1) (pc' := 149) hE dL_arePathsSo_148 rfl 1 rfl rfl ?_
                            refine gl_iload_n (x := a2) (pc' := 150) hE dL_arePathsSo_149 rfl 2 rfl rfl ?_
                            refine gl_iconst (v := (0 : Int32)) (pc' := 151) hE dL_arePathsSo_150 rfl (by decide) ?_
                            obtain ⟨q29, hq29, hq11⟩ := jv_bd_some hq11
                            refine gl_callW (As := [.ref 0, .int (0 : Int32), .int a1, .int a2, .int (0 : Int32)]) (As1 := [.ref 0, .int (0 : Int32), .int a1, .int a2, .int (0 : Int32)]) (gg := (fun G => G)) (pc' := 154) (v := q29.1) hE (fun _ => gl_s1) gl_b1 dL_arePathsSo_151 rfl lK_L_125 (ok_L_asks hl0 hq29) (fun _ => rfl) rfl (by decide) rfl (Nat.le_of_ble_eq_true rfl) (by omega) ?_
                            show gl_V gl_1 E (u + 2) 154 [some (.ref 0), some (.int a1), some (.int a2), some (.int a3), some (.int v4), some (.int (jv_b v5)), some (.int v6), some (.int q8.1)] [.int q29.1, .int q8.1] q29.2
                            refine gl_icmp_ne (x := q8.1) (y := q29.1) (tgt := 189) (pc' := 157) hE dL_arePathsSo_154 (by decide) rfl (fun c30 => ?_) (fun c30 => ?_)
                            · rw [if_neg c30] at hq11
                              refine gl_iconst (v := (0 : Int32)) (pc' := 190) hE dL_arePathsSo_189 rfl (by decide) ?_
                              cases hq11
                              exact gl_fg [true, true, true, true, false, false, true, true] (by omega) kq11
                            · rw [if_pos c30] at hq11
                              refine gl_aload_n (x := 0) (pc' := 158) hE dL_arePathsSo_157 rfl 0 rfl rfl ?_
                              refine gl_iload_n (x := a1) (pc' := 159) hE dL_arePathsSo_158 rfl 1 rfl rfl ?_
                              refine gl_iload_n (x := a2) (pc' := 160) hE dL_arePathsSo_159 rfl 2 rfl rfl ?_
                              refine gl_iload (x := q8.1) (pc' := 162) hE dL_arePathsSo_160 rfl rfl ?_
                              obtain ⟨⟨q31a, q31b⟩, hq31, hq11⟩ := jv_bd_some hq11
                              dsimp only at hq11
                              have zq31 := jv_xe_or hq11
                              clear hq11
                              rcases zq31 with ⟨e0, eq31, hq11⟩ | ⟨v32, eq31, hq11⟩
                              · cases hq11
                              · subst eq31
                                refine gl_callV (k1 := 0) (o := some (.int v32)) (As := [.int a1, .int a2, .int q8.1]) (As1 := [.int a1, .int a2, .int q8.1]) (gg := (fun G => G)) (pc' := 165) hE (fun _ => gl_s1) dL_arePathsSo_162 rfl lV_L_130 (ok_X7_countPaths hq31) (fun _ => rfl) (fun _ => rfl) (fun _ => rfl) (fun _ => rfl) rfl rfl rfl (by decide) rfl (Nat.le_of_ble_eq_true rfl) (by omega) ?_
                                show gl_V gl_1 E (u + 2) 165 [some (.ref 0), some (.int a1), some (.int a2), some (.int a3), some (.int v4), some (.int (jv_b v5)), some (.int v6), some (.int q8.1)] [.int v32] q31b
                                refine gl_iload (x := v6) (pc' := 167) hE dL_arePathsSo_165 rfl rfl ?_
                                refine gl_icmp_le (x := v32) (y := v6) (tgt := 189) (pc' := 170) hE dL_arePathsSo_167 (by decide) rfl (fun c33 => ?_) (fun c33 => ?_)
                                · rw [if_pos c33] at hq11
                                  refine gl_iconst (v := (0 : Int32)) (pc' := 190) hE dL_arePathsSo_189 rfl (by decide) ?_
                                  cases hq11
                                  exact gl_fg [true, true, true, true, false, false, true, true] (by omega) kq11
                                · rw [if_neg c33] at hq11
                                  refine gl_aload_n (x := 0) (pc' := 171) hE dL_arePathsSo_170 rfl 0 rfl rfl ?_
                                  refine gl_iload_n (x := a1) (pc' := 172) hE dL_arePathsSo_171 rfl 1 rfl rfl ?_
                                  refine gl_iload_n (x := a2) (pc' := 173) hE dL_arePathsSo_172 rfl 2 rfl rfl ?_
                                  refine gl_iload (x := q8.1) (pc' := 175) hE dL_arePathsSo_173 rfl rfl ?_
                                  refine gl_iconst (v := (1 : Int32)) (pc' := 176) hE dL_arePathsSo_175 rfl (by decide) ?_
                                  refine gl_isub (x := q8.1) (y := (1 : Int32)) (pc' := 177) hE dL_arePathsSo_176 rfl ?_
                                  obtain ⟨⟨q34a, q34b⟩, hq34, hq11⟩ := jv_bd_some hq11
                                  dsimp only at hq11
                                  have zq34 := jv_xe_or hq11
                                  clear hq11
                                  rcases zq34 with ⟨e0, eq34, hq11⟩ | ⟨v35, eq34, hq11⟩
                                  · cases hq11
                                  · subst eq34
                                    refine gl_callV (k1 := 0) (o := some (.int v35)) (As := [.int a1, .int a2, .int (q8.1 - (1 : Int32))]) (As1 := [.int a1, .int a2, .int (q8.1 - (1 : Int32))]) (gg := (fun G => G)) (pc' := 180) hE (fun _ => gl_s1) dL_arePathsSo_177 rfl lV_L_130 (ok_X7_countPaths hq34) (fun _ => rfl) (fun _ => rfl) (fun _ => rfl) (fun _ => rfl) rfl rfl rfl (by decide) rfl (Nat.le_of_ble_eq_true rfl) (by omega) ?_
                                    show gl_V gl_1 E (u + 2) 180 [some (.ref 0), some (.int a1), some (.int a2), some (.int a3), some (.int v4), some (.int (jv_b v5)), some (.int v6), some (.int q8.1)] [.int v35] q34b
                                    refine gl_iload (x := v6) (pc' := 182) hE dL_arePathsSo_180 rfl rfl ?_
                                    refine gl_icmp_gt (x := v35) (y := v6) (tgt := 189) (pc' := 185) hE dL_arePathsSo_182 (by decide) rfl (fun c36 => ?_) (fun c36 => ?_)
                                    · rw [if_pos c36] at hq11
                                      refine gl_iconst (v := (0 : Int32)) (pc' := 190) hE dL_arePathsSo_189 rfl (by decide) ?_
                                      cases hq11
                                      exact gl_fg [true, true, true, true, false, false, true, true] (by omega) kq11
                                    · rw [if_neg c36] at hq11
                                      refine gl_iconst (v := (1 : Int32)) (pc' := 186) hE dL_arePathsSo_185 rfl (by decide) ?_
                                      refine gl_goto (tgt := 190) hE dL_arePathsSo_186 (by decide) ?_
                                      cases hq11
                                      exact gl_fg [true, true, true, true, false, false, true, true] (by omega) kq11
        · rw [if_neg c9] at h
          refine gl_iload (x := q8.1) (pc' := 61) hE dL_arePathsSo_59 rfl rfl ?_
          refine gl_ldc (v := (-99998 : Int32)) (pc' := 63) hE dL_arePathsSo_61 rfl lC_L_83 ?_
          refine gl_icmp_ne (x := q8.1) (y := (-99998 : Int32)) (tgt := 95) (pc' := 66) hE dL_arePathsSo_63 (by decide) rfl (fun c37 => ?_) (fun c37 => ?_)
          · rw [if_neg c37] at h
            refine gl_iconst (v := (0 : Int32)) (pc' := 96) hE dL_arePathsSo_95 rfl (by decide) ?_
            cases h
            exact hr (false, q8.2) rfl _ _ _ (by omega) dL_arePathsSo_96
          · rw [if_pos c37] at h
            refine gl_aload_n (x := 0) (pc' := 67) hE dL_arePathsSo_66 rfl 0 rfl rfl ?_
            obtain ⟨q38, hq38, h⟩ := jv_lt_eq h
            have zq38 := jv_xe_or h
            clear h
            rcases zq38 with ⟨e0, eq38, h⟩ | ⟨v39, eq38, h⟩
            · cases h
            · subst eq38
              refine gl_callV (k1 := 0) (o := some (.int v39)) (As := []) (As1 := []) (gg := (fun G => G)) (pc' := 70) hE (fun _ => gl_s1) dL_arePathsSo_67 rfl lV_L_59 (ok_X7_pathsDrawn hq38) (fun _ => rfl) (fun _ => rfl) (fun _ => rfl) (fun _ => rfl) rfl rfl rfl (by decide) rfl (Nat.le_of_ble_eq_true rfl) (by omega) ?_
              show gl_V gl_1 E (u + 1) 70 [some (.ref 0), some (.int a1), some (.int a2), some (.int a3), some (.int v4), some (.int (jv_b v5)), some (.int v6), some (.int q8.1)] [.int v39] q8.2
              refine gl_iload_n (x := a3) (pc' := 71) hE dL_arePathsSo_70 rfl 3 rfl rfl ?_
              refine gl_icmp_ne (x := v39) (y := a3) (tgt := 95) (pc' := 74) hE dL_arePathsSo_71 (by decide) rfl (fun c40 => ?_) (fun c40 => ?_)
              · rw [if_neg c40] at h
                refine gl_iconst (v := (0 : Int32)) (pc' := 96) hE dL_arePathsSo_95 rfl (by decide) ?_
                cases h
                exact hr (false, q8.2) rfl _ _ _ (by omega) dL_arePathsSo_96
              · rw [if_pos c40] at h
                refine gl_iload_n (x := a3) (pc' := 75) hE dL_arePathsSo_74 rfl 3 rfl rfl ?_
                refine gl_if_gt (x := a3) (tgt := 91) (pc' := 78) hE dL_arePathsSo_75 (by decide) rfl (fun c41 => ?_) (fun c41 => ?_)
                · rw [if_pos c41] at h
                  refine gl_iconst (v := (1 : Int32)) (pc' := 92) hE dL_arePathsSo_91 rfl (by decide) ?_
                  refine gl_goto (tgt := 96) hE dL_arePathsSo_92 (by decide) ?_
                  cases h
                  exact hr (true, q8.2) rfl _ _ _ (by omega) dL_arePathsSo_96
                · rw [if_neg c41] at h
                  refine gl_aload_n (x := 0) (pc' := 79) hE dL_arePathsSo_78 rfl 0 rfl rfl ?_
                  refine gl_iconst (v := (0 : Int32)) (pc' := 80) hE dL_arePathsSo_79 rfl (by decide) ?_
                  refine gl_iload_n (x := a1) (pc' := 81) hE dL_arePathsSo_80 rfl 1 rfl rfl ?_
                  refine gl_iload_n (x := a2) (pc' := 82) hE dL_arePathsSo_81 rfl 2 rfl rfl ?_
                  refine gl_iconst (v := (0 : Int32)) (pc' := 83) hE dL_arePathsSo_82 rfl (by decide) ?_
                  obtain ⟨q42, hq42, h⟩ := jv_bd_some h
                  refine gl_callW (As := [.ref 0, .int (0 : Int32), .int a1, .int a2, .int (0 : Int32)]) (As1 := [.ref 0, .int (0 : Int32), .int a1, .int a2, .int (0 : Int32)]) (gg := (fun G => G)) (pc' := 86) (v := q42.1) hE (fun _ => gl_s1) gl_b1 dL_arePathsSo_83 rfl lK_L_125 (ok_L_asks hl0 hq42) (fun _ => rfl) rfl (by decide) rfl (Nat.le_of_ble_eq_true rfl) (by omega) ?_
                  show gl_V gl_1 E (u + 2) 86 [some (.ref 0), some (.int a1), some (.int a2), some (.int a3), some (.int v4), some (.int (jv_b v5)), some (.int v6), some (.int q8.1)] [.int q42.1] q42.2
                  refine gl_ldc (v := (-99998 : Int32)) (pc' := 88) hE dL_arePathsSo_86 rfl lC_L_83 ?_
                  refine gl_icmp_ne (x := q42.1) (y := (-99998 : Int32)) (tgt := 95) (pc' := 91) hE dL_arePathsSo_88 (by decide) rfl (fun c43 => ?_) (fun c43 => ?_)
                  · rw [if_neg c43] at h
                    refine gl_iconst (v := (0 : Int32)) (pc' := 96) hE dL_arePathsSo_95 rfl (by decide) ?_
                    cases h
                    exact hr (false, q42.2) rfl _ _ _ (by omega) dL_arePathsSo_96
                  · rw [if_pos c43] at h
                    refine gl_iconst (v := (1 : Int32)) (pc' := 92) hE dL_arePathsSo_91 rfl (by decide) ?_
                    refine gl_goto (tgt := 96) hE dL_arePathsSo_92 (by decide) ?_
                    cases h
                    exact hr (true, q42.2) rfl _ _ _ (by omega) dL_arePathsSo_96
set_option maxRecDepth 100000 in
set_option maxHeartbeats 4000000 in
theorem ok_L_arePathsSo {G : jv_G} {l : Launch} (hl0 : l.stackTraces = false) {σ : jv_S} {p1 : Int32} {p2 : Int32} {r : Bool × jv_S} (h : f_L_arePathsSo σ p1 p2 = some r) : gl_M0 gl_1 G l 21 M_L_arePathsSo (gl_cd M_L_arePathsSo) [.ref 0, .int p1, .int p2] σ (jv_b r.1) r.2 27 := by
  refine gl_of (L0 := [some (.ref 0), some (.int p1), some (.int p2), none, none, none, none, none]) (Or.inl rfl) (by decide +kernel) (Nat.le_of_ble_eq_true rfl) rfl (jv_okZ _) (fun _ _ h => h.1) (fun E e1 e2 hE hT hret => ?_)
  subst e1; subst e2
  unfold f_L_arePathsSo at h
  refine gl_aload_n (x := 0) (pc' := 1) hE dL_arePathsSo_0 rfl 0 rfl rfl ?_
  refine gl_iload_n (x := p1) (pc' := 2) hE dL_arePathsSo_1 rfl 1 rfl rfl ?_
  refine gl_iload_n (x := p2) (pc' := 3) hE dL_arePathsSo_2 rfl 2 rfl rfl ?_
  refine gl_ldc (v := (100000 : Int32)) (pc' := 5) hE dL_arePathsSo_3 rfl lC_L_129 ?_
  obtain ⟨⟨q1a, q1b⟩, hq1, h⟩ := jv_bd_some h
  dsimp only at h
  have zq1 := jv_xe_or h
  clear h
  rcases zq1 with ⟨e0, eq1, h⟩ | ⟨v2, eq1, h⟩
  · cases h
  · subst eq1
    refine gl_callV (k1 := 0) (o := some (.int v2)) (As := [.int p1, .int p2, .int (100000 : Int32)]) (As1 := [.int p1, .int p2, .int (100000 : Int32)]) (gg := (fun G => G)) (pc' := 8) hE (fun _ => gl_s1) dL_arePathsSo_5 rfl lV_L_130 (ok_X7_countPaths hq1) (fun _ => rfl) (fun _ => rfl) (fun _ => rfl) (fun _ => rfl) rfl rfl rfl (by decide) rfl (Nat.le_of_ble_eq_true rfl) (by omega) ?_
    show gl_V gl_1 E 0 8 [some (.ref 0), some (.int p1), some (.int p2), none, none, none, none, none] [.int v2] q1b
    refine gl_istore_n (x := v2) (L' := [some (.ref 0), some (.int p1), some (.int p2), some (.int v2), none, none, none, none]) (pc' := 9) hE dL_arePathsSo_8 rfl 3 rfl (by decide) rfl rfl ?_
    refine gl_iconst (v := (0 : Int32)) (pc' := 10) hE dL_arePathsSo_9 rfl (by decide) ?_
    refine gl_istore (x := (0 : Int32)) (L' := [some (.ref 0), some (.int p1), some (.int p2), some (.int v2), some (.int (0 : Int32)), none, none, none]) (pc' := 12) hE dL_arePathsSo_10 rfl (by decide) rfl rfl ?_
    refine gl_aload_n (x := 0) (pc' := 13) hE dL_arePathsSo_12 rfl 0 rfl rfl ?_
    refine gl_iconst (v := (1 : Int32)) (pc' := 14) hE dL_arePathsSo_13 rfl (by decide) ?_
    refine gl_iload_n (x := p1) (pc' := 15) hE dL_arePathsSo_14 rfl 1 rfl rfl ?_
    refine gl_iload_n (x := p2) (pc' := 16) hE dL_arePathsSo_15 rfl 2 rfl rfl ?_
    obtain ⟨q3, hq3, h⟩ := jv_bd_some h
    refine gl_callW (As := [.ref 0, .int (1 : Int32), .int p1, .int p2]) (As1 := [.ref 0, .int (1 : Int32), .int p1, .int p2]) (gg := (fun G => G)) (pc' := 19) (v := q3.1) hE (fun _ => gl_s1) gl_b1 dL_arePathsSo_16 rfl lK_L_113 (ok_L_starts hl0 hq3) (fun _ => rfl) rfl (by decide) rfl (Nat.le_of_ble_eq_true rfl) (by omega) ?_
    show gl_V gl_1 E 1 19 [some (.ref 0), some (.int p1), some (.int p2), some (.int v2), some (.int (0 : Int32)), none, none, none] [.int q3.1] q3.2
    refine gl_iconst (v := (1 : Int32)) (pc' := 20) hE dL_arePathsSo_19 rfl (by decide) ?_
    obtain ⟨q5, hq5, h⟩ := jv_lt_eq h
    have kq5 : gl_V gl_1 E 1 28 [some (.ref 0), some (.int p1), some (.int p2), some (.int v2), some (.int (0 : Int32)), none, none, none] [.int (jv_b q5)] q3.2 := by
      refine gl_istore (x := (jv_b q5)) (L' := [some (.ref 0), some (.int p1), some (.int p2), some (.int v2), some (.int (0 : Int32)), some (.int (jv_b q5)), none, none]) (pc' := 30) hE dL_arePathsSo_28 rfl (by decide) rfl rfl ?_
      refine gl_iconst (v := (0 : Int32)) (pc' := 31) hE dL_arePathsSo_30 rfl (by decide) ?_
      refine gl_istore (x := (0 : Int32)) (L' := [some (.ref 0), some (.int p1), some (.int p2), some (.int v2), some (.int (0 : Int32)), some (.int (jv_b q5)), some (.int (0 : Int32)), none]) (pc' := 33) hE dL_arePathsSo_31 rfl (by decide) rfl rfl ?_
      obtain ⟨q44, hq44, h⟩ := jv_bd_some h
      refine gl_fg [true, true, true, true, true, true, true, true] (Nat.le_refl _) (lp_L_arePathsSo_33 hl0 hE 13 (0 : Int32) q5 (0 : Int32) q3.2 _ hq44 _ (V := 27) (by omega) (by omega) (fun z hz => ?_) (fun z hz => ?_))
      · subst hz
        simp only [Sum.elim_inr] at h
        refine gl_iload (x := (jv_b z.2.1)) (pc' := 204) hE dL_arePathsSo_202 rfl rfl ?_
        cases h
        exact hret _ _ _ (by omega) dL_arePathsSo_204
      · subst hz
        simp only [Sum.elim_inl] at h
        cases h
        exact hret
    refine gl_icmp_ne (x := q3.1) (y := (1 : Int32)) (tgt := 27) (pc' := 23) hE dL_arePathsSo_20 (by decide) rfl (fun c4 => ?_) (fun c4 => ?_)
    · rw [if_neg c4] at hq5
      refine gl_iconst (v := (0 : Int32)) (pc' := 28) hE dL_arePathsSo_27 rfl (by decide) ?_
      cases hq5
      exact gl_fg [true, true, true, true, true, true, true, true] (by omega) kq5
    · rw [if_pos c4] at hq5
      refine gl_iconst (v := (1 : Int32)) (pc' := 24) hE dL_arePathsSo_23 rfl (by decide) ?_
      refine gl_goto (tgt := 28) hE dL_arePathsSo_24 (by decide) ?_
      cases hq5
      exact gl_fg [true, true, true, true, true, true, true, true] (by omega) kq5
noncomputable def f_L_areWalksSo_lp33 (a4 : Int32) : Nat → Int32 → Bool → Int32 → jv_S → Option ((Bool × jv_S) ⊕ (Int32 × Bool × Int32 × jv_S))
  | 0, _, _, _, _ => none
  | n + 1, v3, v5, v6, σ => if (12 : Int32) ≤ v6 then (some (.inr (v3, v5, v6, σ))) else (if v5 = true then (jv_bd (f_L_draws σ (4 : Int32) (0 : Int32)) (fun q7 => if q7.1 = (-99998 : Int32) then (jv_lt (f_X7_walksDrawn q7.2) (fun q47 => jv_xe q47 (fun e0 => none) (fun v48 => if v48 = v6 then (if 0 < v6 then (some (.inl (true, q7.2))) else (if a4 = (-99998 : Int32) then (some (.inl (true, q7.2))) else (some (.inl (false, q7.2))))) else (some (.inl (false, q7.2)))))) else (jv_bd (if q7.1 < v3 then (some (false, q7.2)) else (if 0 < v6 then (jv_lt (f_X7_walksDrawn q7.2) (fun q12 => jv_xe q12 (fun e0 => none) (fun v13 => if v13 = (v6 + (1 : Int32)) then (jv_lt (if q7.1 = 0 then (true) else (false)) (fun q16 => jv_lt (f_X7_walkEdges q7.2) (fun q17 => jv_xe q17 (fun e0 => none) (fun v18 => jv_lt (if v18 = 0 then (true) else (false)) (fun q20 => if (jv_b q16) = (jv_b q20) then (jv_lt (f_X7_walkEdges q7.2) (fun q22 => jv_xe q22 (fun e0 => none) (fun v23 => if q7.1 < v23 then (some (false, q7.2)) else (jv_lt (f_X7_walkEdges q7.2) (fun q25 => jv_xe q25 (fun e0 => none) (fun v26 => jv_bd (f_L_draws q7.2 (7 : Int32) v26) (fun q27 => if q27.1 = (-99998 : Int32) then (some (true, q27.2)) else (some (false, q27.2))))))))) else (some (false, q7.2))))))) else (some (false, q7.2))))) else (if q7.1 = a4 then (jv_lt (f_X7_walksDrawn q7.2) (fun q30 => jv_xe q30 (fun e0 => none) (fun v31 => if v31 = (v6 + (1 : Int32)) then (jv_lt (if q7.1 = 0 then (true) else (false)) (fun q34 => jv_lt (f_X7_walkEdges q7.2) (fun q35 => jv_xe q35 (fun e0 => none) (fun v36 => jv_lt (if v36 = 0 then (true) else (false)) (fun q38 => if (jv_b q34) = (jv_b q38) then (jv_lt (f_X7_walkEdges q7.2) (fun q40 => jv_xe q40 (fun e0 => none) (fun v41 => if q7.1 < v41 then (some (false, q7.2)) else (jv_lt (f_X7_walkEdges q7.2) (fun q43 => jv_xe q43 (fun e0 => none) (fun v44 => jv_bd (f_L_draws q7.2 (7 : Int32) v44) (fun q45 => if q45.1 = (-99998 : Int32) then (some (true, q45.2)) else (some (false, q45.2))))))))) else (some (false, q7.2))))))) else (some (false, q7.2))))) else (some (false, q7.2))))) (fun q10 => f_L_areWalksSo_lp33 a4 n q7.1 q10.1 (v6 + (1 : Int32)) q10.2)))) else (some (.inr (v3, v5, v6, σ))))
noncomputable def f_L_areWalksSo (σ : jv_S) (p1 : Int32) (p2 : Int32) : Option (Bool × jv_S) := jv_bd (f_L_asks σ (0 : Int32) p1 p2 (0 : Int32)) (fun q1 => jv_bd (f_L_starts q1.2 (2 : Int32) p1 p2) (fun q2 => jv_lt (if q2.1 = (1 : Int32) then (true) else (false)) (fun q4 => jv_bd (f_L_areWalksSo_lp33 q1.1 13 (0 : Int32) q4 (0 : Int32) q2.2) (fun q52 => Sum.elim (fun q52 => some q52) (fun q52 => some (q52.2.1, q52.2.2.2)) q52))))
set_option maxRecDepth 100000 in
set_option maxHeartbeats 4000000 in
theorem lp_L_areWalksSo_33 {E : jv_E} {NN V : Nat} (hl0 : (jv_l E).stackTraces = false) (hE : gl_C gl_1 E RL cL_areWalksSo 8 21 NN) {a4 : Int32} : ∀ (n : Nat) (v3 : Int32) (v5 : Bool) (v6 : Int32) (σ : jv_S) (r : (Bool × jv_S) ⊕ (Int32 × Bool × Int32 × jv_S)), f_L_areWalksSo_lp33 a4 n v3 v5 v6 σ = some r → ∀ u : Nat, u + 2 * n ≤ V → V ≤ NN → (∀ q, r = .inr q → gl_V gl_1 E V 181 [none, none, none, none, none, some (.int (jv_b q.2.1)), none, none] [] q.2.2.2) → (∀ q, r = .inl q → gl_Rt gl_1 E NN cL_areWalksSo (jv_b q.1) q.2) → gl_V gl_1 E u 33 [some (.ref 0), none, none, some (.int v3), some (.int a4), some (.int (jv_b v5)), some (.int v6), none] [] σ := by
  intro n
  induction n with
  | zero =>
    intro v3 v5 v6 σ r h
    rw [f_L_areWalksSo_lp33] at h
    cases h
  | succ n ih =>
    intro v3 v5 v6 σ r h u hu hV hk hr
    rw [f_L_areWalksSo_lp33] at h
    refine gl_iload (x := v6) (pc' := 35) hE dL_areWalksSo_33 rfl rfl ?_
    refine gl_bipush (v := (12 : Int32)) (pc' := 37) hE dL_areWalksSo_35 rfl (by decide) ?_
    refine gl_icmp_ge (x := v6) (y := (12 : Int32)) (tgt := 181) (pc' := 40) hE dL_areWalksSo_37 (by decide) rfl (fun c5 => ?_) (fun c5 => ?_)
    · rw [if_pos c5] at h
      cases h
      exact gl_fg [false, true, true, false, false, true, false, true] (by omega) (hk (v3, v5, v6, σ) rfl)
    · rw [if_neg c5] at h
      refine gl_iload (x := (jv_b v5)) (pc' := 42) hE dL_areWalksSo_40 rfl rfl ?_
      refine gl_if_eq (x := (jv_b v5)) (tgt := 181) (pc' := 45) hE dL_areWalksSo_42 (by decide) rfl (fun c6 => ?_) (fun c6 => ?_)
      · have c6 := jv_b0 c6
        rw [if_neg c6] at h
        cases h
        exact gl_fg [false, true, true, false, false, true, false, true] (by omega) (hk (v3, v5, v6, σ) rfl)
      · have c6 := jv_b1 c6
        rw [if_pos c6] at h
        refine gl_aload_n (x := 0) (pc' := 46) hE dL_areWalksSo_45 rfl 0 rfl rfl ?_
        refine gl_iconst (v := (4 : Int32)) (pc' := 47) hE dL_areWalksSo_46 rfl (by decide) ?_
        refine gl_iconst (v := (0 : Int32)) (pc' := 48) hE dL_areWalksSo_47 rfl (by decide) ?_
        obtain ⟨q7, hq7, h⟩ := jv_bd_some h
        refine gl_callW (As := [.ref 0, .int (4 : Int32), .int (0 : Int32)]) (As1 := [.ref 0, .int (4 : Int32), .int (0 : Int32)]) (gg := (fun G => G)) (pc' := 51) (v := q7.1) hE (fun _ => gl_s1) gl_b1 dL_areWalksSo_48 rfl lK_L_119 (ok_L_draws hl0 hq7) (fun _ => rfl) rfl (by decide) rfl (Nat.le_of_ble_eq_true rfl) (by omega) ?_
        show gl_V gl_1 E (u + 1) 51 [some (.ref 0), none, none, some (.int v3), some (.int a4), some (.int (jv_b v5)), some (.int v6), none] [.int q7.1] q7.2
        refine gl_istore (x := q7.1) (L' := [some (.ref 0), none, none, some (.int v3), some (.int a4), some (.int (jv_b v5)), some (.int v6), some (.int q7.1)]) (pc' := 53) hE dL_areWalksSo_51 rfl (by decide) rfl rfl ?_
        refine gl_iload (x := q7.1) (pc' := 55) hE dL_areWalksSo_53 rfl rfl ?_
        refine gl_ldc (v := (-99998 : Int32)) (pc' := 57) hE dL_areWalksSo_55 rfl lC_L_83 ?_
        refine gl_icmp_ne (x := q7.1) (y := (-99998 : Int32)) (tgt := 87) (pc' := 60) hE dL_areWalksSo_57 (by decide) rfl (fun c8 => ?_) (fun c8 => ?_)
        · rw [if_neg c8] at h
          refine gl_iload (x := q7.1) (pc' := 89) hE dL_areWalksSo_87 rfl rfl ?_
          refine gl_iload_n (x := v3) (pc' := 90) hE dL_areWalksSo_89 rfl 3 rfl rfl ?_
          obtain ⟨q10, hq10, h⟩ := jv_bd_some h
          have kq10 : gl_V gl_1 E (u + 2) 170 [some (.ref 0), none, none, none, some (.int a4), none, some (.int v6), some (.int q7.1)] [.int (jv_b q10.1)] q10.2 := by
            refine gl_istore (x := (jv_b q10.1)) (L' := [some (.ref 0), none, none, none, some (.int a4), some (.int (jv_b q10.1)), some (.int v6), some (.int q7.1)]) (pc' := 172) hE dL_areWalksSo_170 rfl (by decide) rfl rfl ?_
            refine gl_iload (x := q7.1) (pc' := 174) hE dL_areWalksSo_172 rfl rfl ?_
            refine gl_istore_n (x := q7.1) (L' := [some (.ref 0), none, none, some (.int q7.1), some (.int a4), some (.int (jv_b q10.1)), some (.int v6), some (.int q7.1)]) (pc' := 175) hE dL_areWalksSo_174 rfl 3 rfl (by decide) rfl rfl ?_
            refine gl_iinc (x := v6) (v := (v6 + (1 : Int32))) (L' := [some (.ref 0), none, none, some (.int q7.1), some (.int a4), some (.int (jv_b q10.1)), some (.int (v6 + (1 : Int32))), some (.int q7.1)]) (pc' := 178) hE dL_areWalksSo_175 rfl rfl rfl (by decide) rfl rfl ?_
            refine gl_goto (tgt := 33) hE dL_areWalksSo_178 (by decide) ?_
            exact gl_fg [true, true, true, true, true, true, true, false] (Nat.le_refl _) (ih q7.1 q10.1 (v6 + (1 : Int32)) q10.2 _ h _ (by omega) hV hk hr)
          refine gl_icmp_lt (x := q7.1) (y := v3) (tgt := 169) (pc' := 93) hE dL_areWalksSo_90 (by decide) rfl (fun c9 => ?_) (fun c9 => ?_)
          · rw [if_pos c9] at hq10
            refine gl_iconst (v := (0 : Int32)) (pc' := 170) hE dL_areWalksSo_169 rfl (by decide) ?_
            cases hq10
            exact gl_fg [true, true, true, false, true, false, true, true] (by omega) kq10
          · rw [if_neg c9] at hq10
            refine gl_iload (x := v6) (pc' := 95) hE dL_areWalksSo_93 rfl rfl ?_
            refine gl_if_gt (x := v6) (tgt := 105) (pc' := 98) hE dL_areWalksSo_95 (by decide) rfl (fun c11 => ?_) (fun c11 => ?_)
            · rw [if_pos c11] at hq10
              refine gl_aload_n (x := 0) (pc' := 106) hE dL_areWalksSo_105 rfl 0 rfl rfl ?_
              obtain ⟨q12, hq12, hq10⟩ := jv_lt_eq hq10
              have zq12 := jv_xe_or hq10
              clear hq10
              rcases zq12 with ⟨e0, eq12, hq10⟩ | ⟨v13, eq12, hq10⟩
              · cases hq10
              · subst eq12
                refine gl_callV (k1 := 0) (o := some (.int v13)) (As := []) (As1 := []) (gg := (fun G => G)) (pc' := 109) hE (fun _ => gl_s1) dL_areWalksSo_106 rfl lV_L_72 (ok_X7_walksDrawn hq12) (fun _ => rfl) (fun _ => rfl) (fun _ => rfl) (fun _ => rfl) rfl rfl rfl (by decide) rfl (Nat.le_of_ble_eq_true rfl) (by omega) ?_
                show gl_V gl_1 E (u + 1) 109 [some (.ref 0), none, none, some (.int v3), some (.int a4), some (.int (jv_b v5)), some (.int v6), some (.int q7.1)] [.int v13] q7.2
                refine gl_iload (x := v6) (pc' := 111) hE dL_areWalksSo_109 rfl rfl ?_
                refine gl_iconst (v := (1 : Int32)) (pc' := 112) hE dL_areWalksSo_111 rfl (by decide) ?_
                refine gl_iadd (x := v6) (y := (1 : Int32)) (pc' := 113) hE dL_areWalksSo_112 rfl ?_
                refine gl_icmp_ne (x := v13) (y := (v6 + (1 : Int32))) (tgt := 169) (pc' := 116) hE dL_areWalksSo_113 (by decide) rfl (fun c14 => ?_) (fun c14 => ?_)
                · rw [if_neg c14] at hq10
                  refine gl_iconst (v := (0 : Int32)) (pc' := 170) hE dL_areWalksSo_169 rfl (by decide) ?_
                  cases hq10
                  exact gl_fg [true, true, true, false, true, false, true, true] (by omega) kq10
                · rw [if_pos c14] at hq10
                  refine gl_iload (x := q7.1) (pc' := 118) hE dL_areWalksSo_116 rfl rfl ?_
                  obtain ⟨q16, hq16, hq10⟩ := jv_lt_eq hq10
                  have kq16 : gl_V gl_1 E (u + 1) 126 [some (.ref 0), none, none, none, some (.int a4), none, some (.int v6), some (.int q7.1)] [.int (jv_b q16)] q7.2 := by
                    refine gl_aload_n (x := 0) (pc' := 127) hE dL_areWalksSo_126 rfl 0 rfl rfl ?_
                    obtain ⟨q17, hq17, hq10⟩ := jv_lt_eq hq10
                    have zq17 := jv_xe_or hq10
                    clear hq10
                    rcases zq17 with ⟨e0, eq17, hq10⟩ | ⟨v18, eq17, hq10⟩
                    · cases hq10
                    · subst eq17
                      refine gl_callV (k1 := 0) (o := some (.int v18)) (As := []) (As1 := []) (gg := (fun G => G)) (pc' := 130) hE (fun _ => gl_s1) dL_areWalksSo_127 rfl lV_L_75 (ok_X7_walkEdges hq17) (fun _ => rfl) (fun _ => rfl) (fun _ => rfl) (fun _ => rfl) rfl rfl rfl (by decide) rfl (Nat.le_of_ble_eq_true rfl) (by omega) ?_
                      show gl_V gl_1 E (u + 1) 130 [some (.ref 0), none, none, none, some (.int a4), none, some (.int v6), some (.int q7.1)] [.int v18, .int (jv_b q16)] q7.2
                      obtain ⟨q20, hq20, hq10⟩ := jv_lt_eq hq10
                      have kq20 : gl_V gl_1 E (u + 1) 138 [some (.ref 0), none, none, none, some (.int a4), none, some (.int v6), some (.int q7.1)] [.int (jv_b q20), .int (jv_b q16)] q7.2 := by
                        refine gl_icmp_ne (x := (jv_b q16)) (y := (jv_b q20)) (tgt := 169) (pc' := 141) hE dL_areWalksSo_138 (by decide) rfl (fun c21 => ?_) (fun c21 => ?_)
                        · rw [if_neg c21] at hq10
                          refine gl_iconst (v := (0 : Int32)) (pc' := 170) hE dL_areWalksSo_169 rfl (by decide) ?_
                          cases hq10
                          exact gl_fg [true, true, true, true, true, true, true, true] (by omega) kq10
                        · rw [if_pos c21] at hq10
                          refine gl_iload (x := q7.1) (pc' := 143) hE dL_areWalksSo_141 rfl rfl ?_
                          refine gl_aload_n (x := 0) (pc' := 144) hE dL_areWalksSo_143 rfl 0 rfl rfl ?_
                          obtain ⟨q22, hq22, hq10⟩ := jv_lt_eq hq10
                          have zq22 := jv_xe_or hq10
                          clear hq10
                          rcases zq22 with ⟨e0, eq22, hq10⟩ | ⟨v23, eq22, hq10⟩
                          · cases hq10
                          · subst eq22
                            refine gl_callV (k1 := 0) (o := some (.int v23)) (As := []) (As1 := []) (gg := (fun G => G)) (pc' := 147) hE (fun _ => gl_s1) dL_areWalksSo_144 rfl lV_L_75 (ok_X7_walkEdges hq22) (fun _ => rfl) (fun _ => rfl) (fun _ => rfl) (fun _ => rfl) rfl rfl rfl (by decide) rfl (Nat.le_of_ble_eq_true rfl) (by omega) ?_
                            show gl_V gl_1 E (u + 1) 147 [some (.ref 0), none, none, none, some (.int a4), none, some (.int v6), some (.int q7.1)] [.int v23, .int q7.1] q7.2
                            refine gl_icmp_lt (x := q7.1) (y := v23) (tgt := 169) (pc' := 150) hE dL_areWalksSo_147 (by decide) rfl (fun c24 => ?_) (fun c24 => ?_)
                            · rw [if_pos c24] at hq10
                              refine gl_iconst (v := (0 : Int32)) (pc' := 170) hE dL_areWalksSo_169 rfl (by decide) ?_
                              cases hq10
                              exact gl_fg [true, true, true, true, true, true, true, true] (by omega) kq10
                            · rw [if_neg c24] at hq10
                              refine gl_aload_n (x := 0) (pc' := 151) hE dL_areWalksSo_150 rfl 0 rfl rfl ?_
                              refine gl_bipush (v := (7 : Int32)) (pc' := 153) hE dL_areWalksSo_151 rfl (by decide) ?_
                              refine gl_aload_n (x := 0) (pc' := 154) hE dL_areWalksSo_153 rfl 0 rfl rfl ?_
                              obtain ⟨q25, hq25, hq10⟩ := jv_lt_eq hq10
                              have zq25 := jv_xe_or hq10
                              clear hq10
                              rcases zq25 with ⟨e0, eq25, hq10⟩ | ⟨v26, eq25, hq10⟩
                              · cases hq10
                              · subst eq25
                                refine gl_callV (k1 := 0) (o := some (.int v26)) (As := []) (As1 := []) (gg := (fun G => G)) (pc' := 157) hE (fun _ => gl_s1) dL_areWalksSo_154 rfl lV_L_75 (ok_X7_walkEdges hq25) (fun _ => rfl) (fun _ => rfl) (fun _ => rfl) (fun _ => rfl) rfl rfl rfl (by decide) rfl (Nat.le_of_ble_eq_true rfl) (by omega) ?_
                                show gl_V gl_1 E (u + 1) 157 [some (.ref 0), none, none, none, some (.int a4), none, some (.int v6), some (.int q7.1)] [.int v26, .int (7 : Int32), .ref 0] q7.2
                                obtain ⟨q27, hq27, hq10⟩ := jv_bd_some hq10
                                refine gl_callW (As := [.ref 0, .int (7 : Int32), .int v26]) (As1 := [.ref 0, .int (7 : Int32), .int v26]) (gg := (fun G => G)) (pc' := 160) (v := q27.1) hE (fun _ => gl_s1) gl_b1 dL_areWalksSo_157 rfl lK_L_119 (ok_L_draws hl0 hq27) (fun _ => rfl) rfl (by decide) rfl (Nat.le_of_ble_eq_true rfl) (by omega) ?_
                                show gl_V gl_1 E (u + 2) 160 [some (.ref 0), none, none, none, some (.int a4), none, some (.int v6), some (.int q7.1)] [.int q27.1] q27.2
                                refine gl_ldc (v := (-99998 : Int32)) (pc' := 162) hE dL_areWalksSo_160 rfl lC_L_83 ?_
                                refine gl_icmp_ne (x := q27.1) (y := (-99998 : Int32)) (tgt := 169) (pc' := 165) hE dL_areWalksSo_162 (by decide) rfl (fun c28 => ?_) (fun c28 => ?_)
                                · rw [if_neg c28] at hq10
                                  refine gl_iconst (v := (0 : Int32)) (pc' := 170) hE dL_areWalksSo_169 rfl (by decide) ?_
                                  cases hq10
                                  exact gl_fg [true, true, true, true, true, true, true, true] (by omega) kq10
                                · rw [if_pos c28] at hq10
                                  refine gl_iconst (v := (1 : Int32)) (pc' := 166) hE dL_areWalksSo_165 rfl (by decide) ?_
                                  refine gl_goto (tgt := 170) hE dL_areWalksSo_166 (by decide) ?_
                                  cases hq10
                                  exact gl_fg [true, true, true, true, true, true, true, true] (by omega) kq10
                      refine gl_if_ne (x := v18) (tgt := 137) (pc' := 133) hE dL_areWalksSo_130 (by decide) rfl (fun c19 => ?_) (fun c19 => ?_)
                      · rw [if_neg c19] at hq20
                        refine gl_iconst (v := (0 : Int32)) (pc' := 138) hE dL_areWalksSo_137 rfl (by decide) ?_
                        cases hq20
                        exact gl_fg [true, true, true, true, true, true, true, true] (by omega) kq20
                      · rw [if_pos c19] at hq20
                        refine gl_iconst (v := (1 : Int32)) (pc' := 134) hE dL_areWalksSo_133 rfl (by decide) ?_
                        refine gl_goto (tgt := 138) hE dL_areWalksSo_134 (by decide) ?_
                        cases hq20
                        exact gl_fg [true, true, true, true, true, true, true, true] (by omega) kq20
                  refine gl_if_ne (x := q7.1) (tgt := 125) (pc' := 121) hE dL_areWalksSo_118 (by decide) rfl (fun c15 => ?_) (fun c15 => ?_)
                  · rw [if_neg c15] at hq16
                    refine gl_iconst (v := (0 : Int32)) (pc' := 126) hE dL_areWalksSo_125 rfl (by decide) ?_
                    cases hq16
                    exact gl_fg [true, true, true, false, true, false, true, true] (by omega) kq16
                  · rw [if_pos c15] at hq16
                    refine gl_iconst (v := (1 : Int32)) (pc' := 122) hE dL_areWalksSo_121 rfl (by decide) ?_
                    refine gl_goto (tgt := 126) hE dL_areWalksSo_122 (by decide) ?_
                    cases hq16
                    exact gl_fg [true, true, true, false, true, false, true, true] (by omega) kq16
            · rw [if_neg c11] at hq10
              refine gl_iload (x := q7.1) (pc' := 100) hE dL_areWalksSo_98 rfl rfl ?_
              refine gl_iload (x := a4) (pc' := 102) hE dL_areWalksSo_100 rfl rfl ?_
              refine gl_icmp_ne (x := q7.1) (y := a4) (tgt := 169) (pc' := 105) hE dL_areWalksSo_102 (by decide) rfl (fun c29 => ?_) (fun c29 => ?_)
              · rw [if_neg c29] at hq10
                refine gl_iconst (v := (0 : Int32)) (pc' := 170) hE dL_areWalksSo_169 rfl (by decide) ?_
                cases hq10
                exact gl_fg [true, true, true, false, true, false, true, true] (by omega) kq10
              · rw [if_pos c29] at hq10
                refine gl_aload_n (x := 0) (pc' := 106) hE dL_areWalksSo_105 rfl 0 rfl rfl ?_
                obtain ⟨q30, hq30, hq10⟩ := jv_lt_eq hq10
                have zq30 := jv_xe_or hq10
                clear hq10
                rcases zq30 with ⟨e0, eq30, hq10⟩ | ⟨v31, eq30, hq10⟩
                · cases hq10
                · subst eq30
                  refine gl_callV (k1 := 0) (o := some (.int v31)) (As := []) (As1 := []) (gg := (fun G => G)) (pc' := 109) hE (fun _ => gl_s1) dL_areWalksSo_106 rfl lV_L_72 (ok_X7_walksDrawn hq30) (fun _ => rfl) (fun _ => rfl) (fun _ => rfl) (fun _ => rfl) rfl rfl rfl (by decide) rfl (Nat.le_of_ble_eq_true rfl) (by omega) ?_
                  show gl_V gl_1 E (u + 1) 109 [some (.ref 0), none, none, some (.int v3), some (.int a4), some (.int (jv_b v5)), some (.int v6), some (.int q7.1)] [.int v31] q7.2
                  refine gl_iload (x := v6) (pc' := 111) hE dL_areWalksSo_109 rfl rfl ?_
                  refine gl_iconst (v := (1 : Int32)) (pc' := 112) hE dL_areWalksSo_111 rfl (by decide) ?_
                  refine gl_iadd (x := v6) (y := (1 : Int32)) (pc' := 113) hE dL_areWalksSo_112 rfl ?_
                  refine gl_icmp_ne (x := v31) (y := (v6 + (1 : Int32))) (tgt := 169) (pc' := 116) hE dL_areWalksSo_113 (by decide) rfl (fun c32 => ?_) (fun c32 => ?_)
                  · rw [if_neg c32] at hq10
                    refine gl_iconst (v := (0 : Int32)) (pc' := 170) hE dL_areWalksSo_169 rfl (by decide) ?_
                    cases hq10
                    exact gl_fg [true, true, true, false, true, false, true, true] (by omega) kq10
                  · rw [if_pos c32] at hq10
                    refine gl_iload (x := q7.1) (pc' := 118) hE dL_areWalksSo_116 rfl rfl ?_
                    obtain ⟨q34, hq34, hq10⟩ := jv_lt_eq hq10
                    have kq34 : gl_V gl_1 E (u + 1) 126 [some (.ref 0), none, none, none, some (.int a4), none, some (.int v6), some (.int q7.1)] [.int (jv_b q34)] q7.2 := by
                      refine gl_aload_n (x := 0) (pc' := 127) hE dL_areWalksSo_126 rfl 0 rfl rfl ?_
                      obtain ⟨q35, hq35, hq10⟩ := jv_lt_eq hq10
                      have zq35 := jv_xe_or hq10
                      clear hq10
                      rcases zq35 with ⟨e0, eq35, hq10⟩ | ⟨v36, eq35, hq10⟩
                      · cases hq10
                      · subst eq35
                        refine gl_callV (k1 := 0) (o := some (.int v36)) (As := []) (As1 := []) (gg := (fun G => G)) (pc' := 130) hE (fun _ => gl_s1) dL_areWalksSo_127 rfl lV_L_75 (ok_X7_walkEdges hq35) (fun _ => rfl) (fun _ => rfl) (fun _ => rfl) (fun _ => rfl) rfl rfl rfl (by decide) rfl (Nat.le_of_ble_eq_true rfl) (by omega) ?_
                        show gl_V gl_1 E (u + 1) 130 [some (.ref 0), none, none, none, some (.int a4), none, some (.int v6), some (.int q7.1)] [.int v36, .int (jv_b q34)] q7.2
                        obtain ⟨q38, hq38, hq10⟩ := jv_lt_eq hq10
                        have kq38 : gl_V gl_1 E (u + 1) 138 [some (.ref 0), none, none, none, some (.int a4), none, some (.int v6), some (.int q7.1)] [.int (jv_b q38), .int (jv_b q34)] q7.2 := by
                          refine gl_icmp_ne (x := (jv_b q34)) (y := (jv_b q38)) (tgt := 169) (pc' := 141) hE dL_areWalksSo_138 (by decide) rfl (fun c39 => ?_) (fun c39 => ?_)
                          · rw [if_neg c39] at hq10
                            refine gl_iconst (v := (0 : Int32)) (pc' := 170) hE dL_areWalksSo_169 rfl (by decide) ?_
                            cases hq10
                            exact gl_fg [true, true, true, true, true, true, true, true] (by omega) kq10
                          · rw [if_pos c39] at hq10
                            refine gl_iload (x := q7.1) (pc' := 143) hE dL_areWalksSo_141 rfl rfl ?_
                            refine gl_aload_n (x := 0) (pc' := 144) hE dL_areWalksSo_143 rfl 0 rfl rfl ?_
                            obtain ⟨q40, hq40, hq10⟩ := jv_lt_eq hq10
                            have zq40 := jv_xe_or hq10
                            clear hq10
                            rcases zq40 with ⟨e0, eq40, hq10⟩ | ⟨v41, eq40, hq10⟩
                            · cases hq10
                            · subst eq40
                              refine gl_callV (k1 := 0) (o := some (.int v41)) (As := []) (As1 := []) (gg := (fun G => G)) (pc' := 147) hE (fun _ => gl_s1) dL_areWalksSo_144 rfl lV_L_75 (ok_X7_walkEdges hq40) (fun _ => rfl) (fun _ => rfl) (fun _ => rfl) (fun _ => rfl) rfl rfl rfl (by decide) rfl (Nat.le_of_ble_eq_true rfl) (by omega) ?_
                              show gl_V gl_1 E (u + 1) 147 [some (.ref 0), none, none, none, some (.int a4), none, some (.int v6), some (.int q7.1)] [.int v41, .int q7.1] q7.2
                              refine gl_icmp_lt (x := q7.1) (y := v41) (tgt := 169) (pc' := 150) hE dL_areWalksSo_147 (by decide) rfl (fun c42 => ?_) (fun c42 => ?_)
                              · rw [if_pos c42] at hq10
                                refine gl_iconst (v := (0 : Int32)) (pc' := 170) hE dL_areWalksSo_169 rfl (by decide) ?_
                                cases hq10
                                exact gl_fg [true, true, true, true, true, true, true, true] (by omega) kq10
                              · rw [if_neg c42] at hq10
                                refine gl_aload_n (x := 0) (pc' := 151) hE dL_areWalksSo_150 rfl 0 rfl rfl ?_
                                refine gl_bipush (v := (7 : Int32)) (pc' := 153) hE dL_areWalksSo_151 rfl (by decide) ?_
                                refine gl_aload_n (x := 0) (pc' := 154) hE dL_areWalksSo_153 rfl 0 rfl rfl ?_
                                obtain ⟨q43, hq43, hq10⟩ := jv_lt_eq hq10
                                have zq43 := jv_xe_or hq10
                                clear hq10
                                rcases zq43 with ⟨e0, eq43, hq10⟩ | ⟨v44, eq43, hq10⟩
                                · cases hq10
                                · subst eq43
                                  refine gl_callV (k1 := 0) (o := some (.int v44)) (As := []) (As1 := []) (gg := (fun G => G)) (pc' := 157) hE (fun _ => gl_s1) dL_areWalksSo_154 rfl lV_L_75 (ok_X7_walkEdges hq43) (fun _ => rfl) (fun _ => rfl) (fun _ => rfl) (fun _ => rfl) rfl rfl rfl (by decide) rfl (Nat.le_of_ble_eq_true rfl) (by omega) ?_
                                  show gl_V gl_1 E (u + 1) 157 [some (.ref 0), none, none, none, some (.int a4), none, some (.int v6), some (.int q7.1)] [.int v44, .int (7 : Int32), .ref 0] q7.2
                                  obtain ⟨q45, hq45, hq10⟩ := jv_bd_some hq10
                                  refine gl_callW (As := [.ref 0, .int (7 : Int32), .int v44]) (As1 := [.ref 0, .int (7 : Int32), .int v44]) (gg := (fun G => G)) (pc' := 160) (v := q45.1) hE (fun _ => gl_s1) gl_b1 dL_areWalksSo_157 rfl lK_L_119 (ok_L_draws hl0 hq45) (fun _ => rfl) rfl (by decide) rfl (Nat.le_of_ble_eq_true rfl) (by omega) ?_
                                  show gl_V gl_1 E (u + 2) 160 [some (.ref 0), none, none, none, some (.int a4), none, some (.int v6), some (.int q7.1)] [.int q45.1] q45.2
                                  refine gl_ldc (v := (-99998 : Int32)) (pc' := 162) hE dL_areWalksSo_160 rfl lC_L_83 ?_
                                  refine gl_icmp_ne (x := q45.1) (y := (-99998 : Int32)) (tgt := 169) (pc' := 165) hE dL_areWalksSo_162 (by decide) rfl (fun c46 => ?_) (fun c46 => ?_)
                                  · rw [if_neg c46] at hq10
                                    refine gl_iconst (v := (0 : Int32)) (pc' := 170) hE dL_areWalksSo_169 rfl (by decide) ?_
                                    cases hq10
                                    exact gl_fg [true, true, true, true, true, true, true, true] (by omega) kq10
                                  · rw [if_pos c46] at hq10
                                    refine gl_iconst (v := (1 : Int32)) (pc' := 166) hE dL_areWalksSo_165 rfl (by decide) ?_
                                    refine gl_goto (tgt := 170) hE dL_areWalksSo_166 (by decide) ?_
                                    cases hq10
                                    exact gl_fg [true, true, true, true, true, true, true, true] (by omega) kq10
                        refine gl_if_ne (x := v36) (tgt := 137) (pc' := 133) hE dL_areWalksSo_130 (by decide) rfl (fun c37 => ?_) (fun c37 => ?_)
                        · rw [if_neg c37] at hq38
                          refine gl_iconst (v := (0 : Int32)) (pc' := 138) hE dL_areWalksSo_137 rfl (by decide) ?_
                          cases hq38
                          exact gl_fg [true, true, true, true, true, true, true, true] (by omega) kq38
                        · rw [if_pos c37] at hq38
                          refine gl_iconst (v := (1 : Int32)) (pc' := 134) hE dL_areWalksSo_133 rfl (by decide) ?_
                          refine gl_goto (tgt := 138) hE dL_areWalksSo_134 (by decide) ?_
                          cases hq38
                          exact gl_fg [true, true, true, true, true, true, true, true] (by omega) kq38
                    refine gl_if_ne (x := q7.1) (tgt := 125) (pc' := 121) hE dL_areWalksSo_118 (by decide) rfl (fun c33 => ?_) (fun c33 => ?_)
                    · rw [if_neg c33] at hq34
                      refine gl_iconst (v := (0 : Int32)) (pc' := 126) hE dL_areWalksSo_125 rfl (by decide) ?_
                      cases hq34
                      exact gl_fg [true, true, true, false, true, false, true, true] (by omega) kq34
                    · rw [if_pos c33] at hq34
                      refine gl_iconst (v := (1 : Int32)) (pc' := 122) hE dL_areWalksSo_121 rfl (by decide) ?_
                      refine gl_goto (tgt := 126) hE dL_areWalksSo_122 (by decide) ?_
                      cases hq34
                      exact gl_fg [true, true, true, false, true, false, true, true] (by omega) kq34
        · rw [if_pos c8] at h
          refine gl_aload_n (x := 0) (pc' := 61) hE dL_areWalksSo_60 rfl 0 rfl rfl ?_
          obtain ⟨q47, hq47, h⟩ := jv_lt_eq h
          have zq47 := jv_xe_or h
          clear h
          rcases zq47 with ⟨e0, eq47, h⟩ | ⟨v48, eq47, h⟩
          · cases h
          · subst eq47
            refine gl_callV (k1 := 0) (o := some (.int v48)) (As := []) (As1 := []) (gg := (fun G => G)) (pc' := 64) hE (fun _ => gl_s1) dL_areWalksSo_61 rfl lV_L_72 (ok_X7_walksDrawn hq47) (fun _ => rfl) (fun _ => rfl) (fun _ => rfl) (fun _ => rfl) rfl rfl rfl (by decide) rfl (Nat.le_of_ble_eq_true rfl) (by omega) ?_
            show gl_V gl_1 E (u + 1) 64 [some (.ref 0), none, none, some (.int v3), some (.int a4), some (.int (jv_b v5)), some (.int v6), some (.int q7.1)] [.int v48] q7.2
            refine gl_iload (x := v6) (pc' := 66) hE dL_areWalksSo_64 rfl rfl ?_
            refine gl_icmp_ne (x := v48) (y := v6) (tgt := 85) (pc' := 69) hE dL_areWalksSo_66 (by decide) rfl (fun c49 => ?_) (fun c49 => ?_)
            · rw [if_neg c49] at h
              refine gl_iconst (v := (0 : Int32)) (pc' := 86) hE dL_areWalksSo_85 rfl (by decide) ?_
              cases h
              exact hr (false, q7.2) rfl _ _ _ (by omega) dL_areWalksSo_86
            · rw [if_pos c49] at h
              refine gl_iload (x := v6) (pc' := 71) hE dL_areWalksSo_69 rfl rfl ?_
              refine gl_if_gt (x := v6) (tgt := 81) (pc' := 74) hE dL_areWalksSo_71 (by decide) rfl (fun c50 => ?_) (fun c50 => ?_)
              · rw [if_pos c50] at h
                refine gl_iconst (v := (1 : Int32)) (pc' := 82) hE dL_areWalksSo_81 rfl (by decide) ?_
                refine gl_goto (tgt := 86) hE dL_areWalksSo_82 (by decide) ?_
                cases h
                exact hr (true, q7.2) rfl _ _ _ (by omega) dL_areWalksSo_86
              · rw [if_neg c50] at h
                refine gl_iload (x := a4) (pc' := 76) hE dL_areWalksSo_74 rfl rfl ?_
                refine gl_ldc (v := (-99998 : Int32)) (pc' := 78) hE dL_areWalksSo_76 rfl lC_L_83 ?_
                refine gl_icmp_ne (x := a4) (y := (-99998 : Int32)) (tgt := 85) (pc' := 81) hE dL_areWalksSo_78 (by decide) rfl (fun c51 => ?_) (fun c51 => ?_)
                · rw [if_neg c51] at h
                  refine gl_iconst (v := (0 : Int32)) (pc' := 86) hE dL_areWalksSo_85 rfl (by decide) ?_
                  cases h
                  exact hr (false, q7.2) rfl _ _ _ (by omega) dL_areWalksSo_86
                · rw [if_pos c51] at h
                  refine gl_iconst (v := (1 : Int32)) (pc' := 82) hE dL_areWalksSo_81 rfl (by decide) ?_
                  refine gl_goto (tgt := 86) hE dL_areWalksSo_82 (by decide) ?_
                  cases h
                  exact hr (true, q7.2) rfl _ _ _ (by omega) dL_areWalksSo_86
set_option maxRecDepth 100000 in
set_option maxHeartbeats 4000000 in
theorem ok_L_areWalksSo {G : jv_G} {l : Launch} (hl0 : l.stackTraces = false) {σ : jv_S} {p1 : Int32} {p2 : Int32} {r : Bool × jv_S} (h : f_L_areWalksSo σ p1 p2 = some r) : gl_M0 gl_1 G l 21 M_L_areWalksSo (gl_cd M_L_areWalksSo) [.ref 0, .int p1, .int p2] σ (jv_b r.1) r.2 28 := by
  refine gl_of (L0 := [some (.ref 0), some (.int p1), some (.int p2), none, none, none, none, none]) (Or.inl rfl) (by decide +kernel) (Nat.le_of_ble_eq_true rfl) rfl (jv_okZ _) (fun _ _ h => h.1) (fun E e1 e2 hE hT hret => ?_)
  subst e1; subst e2
  unfold f_L_areWalksSo at h
  refine gl_iconst (v := (0 : Int32)) (pc' := 1) hE dL_areWalksSo_0 rfl (by decide) ?_
  refine gl_istore_n (x := (0 : Int32)) (L' := [some (.ref 0), some (.int p1), some (.int p2), some (.int (0 : Int32)), none, none, none, none]) (pc' := 2) hE dL_areWalksSo_1 rfl 3 rfl (by decide) rfl rfl ?_
  refine gl_aload_n (x := 0) (pc' := 3) hE dL_areWalksSo_2 rfl 0 rfl rfl ?_
  refine gl_iconst (v := (0 : Int32)) (pc' := 4) hE dL_areWalksSo_3 rfl (by decide) ?_
  refine gl_iload_n (x := p1) (pc' := 5) hE dL_areWalksSo_4 rfl 1 rfl rfl ?_
  refine gl_iload_n (x := p2) (pc' := 6) hE dL_areWalksSo_5 rfl 2 rfl rfl ?_
  refine gl_iconst (v := (0 : Int32)) (pc' := 7) hE dL_areWalksSo_6 rfl (by decide) ?_
  obtain ⟨q1, hq1, h⟩ := jv_bd_some h
  refine gl_callW (As := [.ref 0, .int (0 : Int32), .int p1, .int p2, .int (0 : Int32)]) (As1 := [.ref 0, .int (0 : Int32), .int p1, .int p2, .int (0 : Int32)]) (gg := (fun G => G)) (pc' := 10) (v := q1.1) hE (fun _ => gl_s1) gl_b1 dL_areWalksSo_7 rfl lK_L_125 (ok_L_asks hl0 hq1) (fun _ => rfl) rfl (by decide) rfl (Nat.le_of_ble_eq_true rfl) (by omega) ?_
  show gl_V gl_1 E 1 10 [some (.ref 0), some (.int p1), some (.int p2), some (.int (0 : Int32)), none, none, none, none] [.int q1.1] q1.2
  refine gl_istore (x := q1.1) (L' := [some (.ref 0), some (.int p1), some (.int p2), some (.int (0 : Int32)), some (.int q1.1), none, none, none]) (pc' := 12) hE dL_areWalksSo_10 rfl (by decide) rfl rfl ?_
  refine gl_aload_n (x := 0) (pc' := 13) hE dL_areWalksSo_12 rfl 0 rfl rfl ?_
  refine gl_iconst (v := (2 : Int32)) (pc' := 14) hE dL_areWalksSo_13 rfl (by decide) ?_
  refine gl_iload_n (x := p1) (pc' := 15) hE dL_areWalksSo_14 rfl 1 rfl rfl ?_
  refine gl_iload_n (x := p2) (pc' := 16) hE dL_areWalksSo_15 rfl 2 rfl rfl ?_
  obtain ⟨q2, hq2, h⟩ := jv_bd_some h
  refine gl_callW (As := [.ref 0, .int (2 : Int32), .int p1, .int p2]) (As1 := [.ref 0, .int (2 : Int32), .int p1, .int p2]) (gg := (fun G => G)) (pc' := 19) (v := q2.1) hE (fun _ => gl_s1) gl_b1 dL_areWalksSo_16 rfl lK_L_113 (ok_L_starts hl0 hq2) (fun _ => rfl) rfl (by decide) rfl (Nat.le_of_ble_eq_true rfl) (by omega) ?_
  show gl_V gl_1 E 2 19 [some (.ref 0), some (.int p1), some (.int p2), some (.int (0 : Int32)), some (.int q1.1), none, none, none] [.int q2.1] q2.2
  refine gl_iconst (v := (1 : Int32)) (pc' := 20) hE dL_areWalksSo_19 rfl (by decide) ?_
  obtain ⟨q4, hq4, h⟩ := jv_lt_eq h
  have kq4 : gl_V gl_1 E 2 28 [some (.ref 0), none, none, some (.int (0 : Int32)), some (.int q1.1), none, none, none] [.int (jv_b q4)] q2.2 := by
    refine gl_istore (x := (jv_b q4)) (L' := [some (.ref 0), none, none, some (.int (0 : Int32)), some (.int q1.1), some (.int (jv_b q4)), none, none]) (pc' := 30) hE dL_areWalksSo_28 rfl (by decide) rfl rfl ?_
    refine gl_iconst (v := (0 : Int32)) (pc' := 31) hE dL_areWalksSo_30 rfl (by decide) ?_
    refine gl_istore (x := (0 : Int32)) (L' := [some (.ref 0), none, none, some (.int (0 : Int32)), some (.int q1.1), some (.int (jv_b q4)), some (.int (0 : Int32)), none]) (pc' := 33) hE dL_areWalksSo_31 rfl (by decide) rfl rfl ?_
    obtain ⟨q52, hq52, h⟩ := jv_bd_some h
    refine gl_fg [true, true, true, true, true, true, true, true] (Nat.le_refl _) (lp_L_areWalksSo_33 hl0 hE 13 (0 : Int32) q4 (0 : Int32) q2.2 _ hq52 _ (V := 28) (by omega) (by omega) (fun z hz => ?_) (fun z hz => ?_))
    · subst hz
      simp only [Sum.elim_inr] at h
      refine gl_iload (x := (jv_b z.2.1)) (pc' := 183) hE dL_areWalksSo_181 rfl rfl ?_
      cases h
      exact hret _ _ _ (by omega) dL_areWalksSo_183
    · subst hz
      simp only [Sum.elim_inl] at h
      cases h
      exact hret
  refine gl_icmp_ne (x := q2.1) (y := (1 : Int32)) (tgt := 27) (pc' := 23) hE dL_areWalksSo_20 (by decide) rfl (fun c3 => ?_) (fun c3 => ?_)
  · rw [if_neg c3] at hq4
    refine gl_iconst (v := (0 : Int32)) (pc' := 28) hE dL_areWalksSo_27 rfl (by decide) ?_
    cases hq4
    exact gl_fg [true, false, false, true, true, true, true, true] (by omega) kq4
  · rw [if_pos c3] at hq4
    refine gl_iconst (v := (1 : Int32)) (pc' := 24) hE dL_areWalksSo_23 rfl (by decide) ?_
    refine gl_goto (tgt := 28) hE dL_areWalksSo_24 (by decide) ?_
    cases hq4
    exact gl_fg [true, false, false, true, true, true, true, true] (by omega) kq4
