noncomputable def f_L_areSetsSo_lp105 (a1 : Int32) (a2 : Int32) (a3 : Int32) (a4 : Int32) (a5 : Int32) (a6 : Int32) : Nat → Bool → Int32 → jv_S → Option (Bool × Int32 × jv_S)
  | 0, _, _, _ => none
  | n + 1, v7, v8, σ => if (5 : Int32) ≤ v8 then (some (v7, v8, σ)) else (if v7 = true then (jv_bd (f_L_asks σ (4 : Int32) a1 a2 v8) (fun q22 => jv_bd (f_L_asks q22.2 (5 : Int32) a1 a2 v8) (fun q23 => jv_lt (if q22.1 < 0 then (false) else (true)) (fun q25 => jv_lt (if a3 < v8 then (false) else (true)) (fun q27 => jv_lt (if (jv_b q25) = (jv_b q27) then (jv_lt (if q23.1 < 0 then (false) else (true)) (fun q31 => jv_lt (if a4 < v8 then (false) else (true)) (fun q33 => if (jv_b q31) = (jv_b q33) then (if q22.1 < 0 then (if q23.1 < 0 then (if (1 : Int32) < v8 then (true) else (if q22.1 = q23.1 then (if q22.1 = a5 then (true) else (if 0 ≤ q22.1 then (false) else (true))) else (false))) else (if q23.1 < q22.1 then (false) else (if (1 : Int32) < v8 then (true) else (if q22.1 = q23.1 then (if q22.1 = a5 then (true) else (if 0 ≤ q22.1 then (false) else (true))) else (false))))) else (if q22.1 < (v8 * a5) then (false) else (if q23.1 < 0 then (if (1 : Int32) < v8 then (true) else (if q22.1 = q23.1 then (if q22.1 = a5 then (true) else (if 0 ≤ q22.1 then (false) else (true))) else (false))) else (if q23.1 < q22.1 then (false) else (if (1 : Int32) < v8 then (true) else (if q22.1 = q23.1 then (if q22.1 = a5 then (true) else (if 0 ≤ q22.1 then (false) else (true))) else (false))))))) else (false)))) else (false)) (fun q29 => f_L_areSetsSo_lp105 a1 a2 a3 a4 a5 a6 n q29 (v8 + (1 : Int32)) q23.2)))))) else (some (v7, v8, σ)))
noncomputable def f_L_areSetsSo (σ : jv_S) (p1 : Int32) (p2 : Int32) : Option (Bool × jv_S) := jv_bd (f_X7_disjointPaths σ p1 p2 (0 : Int32)) (fun q1 => (fun (q1a : Except String Int32) (q1b : jv_S) => jv_xe q1a (fun e0 => none) (fun v2 => jv_bd (f_X7_disjointPaths q1b p1 p2 (1 : Int32)) (fun q3 => (fun (q3a : Except String Int32) (q3b : jv_S) => jv_xe q3a (fun e0 => none) (fun v4 => jv_bd (f_L_asks q3b (0 : Int32) p1 p2 (0 : Int32)) (fun q5 => jv_bd (f_L_asks q5.2 (1 : Int32) p1 p2 (0 : Int32)) (fun q6 => jv_lt (if v2 < v4 then (false) else (jv_lt (if v4 ≤ 0 then (false) else (true)) (fun q10 => jv_lt (if v2 ≤ 0 then (false) else (true)) (fun q12 => if (jv_b q10) = (jv_b q12) then (jv_lt (if v2 ≤ 0 then (false) else (true)) (fun q15 => jv_lt (if q5.1 < 0 then (false) else (true)) (fun q17 => if (jv_b q15) = (jv_b q17) then (if (f_X7_usableEdges q6.2) < v2 then (false) else (true)) else (false)))) else (false))))) (fun q8 => jv_bd (f_L_areSetsSo_lp105 p1 p2 v2 v4 q5.1 q6.1 5 q8 (1 : Int32) q6.2) (fun q57 => jv_bd (if q57.1 = true then (if q6.1 < 0 then (some (true, q57.2.2)) else (if q6.1 < q5.1 then (some (false, q57.2.2)) else (if q5.1 < 0 then (some (false, q57.2.2)) else (jv_bd (f_L_asks q57.2.2 (2 : Int32) p1 p2 (0 : Int32)) (fun q63 => if q63.1 < (1 : Int32) then (some (false, q63.2)) else (some (true, q63.2))))))) else (some (false, q57.2.2))) (fun q59 => some (q59.1, q59.2)))))))) q3.1 q3.2))) q1.1 q1.2)
set_option maxRecDepth 100000 in
set_option maxHeartbeats 4000000 in
theorem lp_L_areSetsSo_105 {E : jv_E} {NN V : Nat} (hl0 : (jv_l E).stackTraces = false) (hE : gl_C gl_1 E RL cL_areSetsSo 11 9 NN) {a1 : Int32} {a2 : Int32} {a3 : Int32} {a4 : Int32} {a5 : Int32} {a6 : Int32} : ∀ (n : Nat) (v7 : Bool) (v8 : Int32) (σ : jv_S) (r : Bool × Int32 × jv_S), f_L_areSetsSo_lp105 a1 a2 a3 a4 a5 a6 n v7 v8 σ = some r → ∀ u : Nat, u + 2 * n ≤ V → V ≤ NN → (∀ q, r = q → gl_V gl_1 E V 252 [some (.ref 0), some (.int a1), some (.int a2), none, none, some (.int a5), some (.int a6), some (.int (jv_b q.1)), none, none, none] [] q.2.2) → gl_V gl_1 E u 105 [some (.ref 0), some (.int a1), some (.int a2), some (.int a3), some (.int a4), some (.int a5), some (.int a6), some (.int (jv_b v7)), some (.int v8), none, none] [] σ := by
  intro n
  induction n with
  | zero =>
    intro v7 v8 σ r h
    rw [f_L_areSetsSo_lp105] at h
    cases h
  | succ n ih =>
    intro v7 v8 σ r h u hu hV hk
    rw [f_L_areSetsSo_lp105] at h
    refine gl_iload (x := v8) (pc' := 107) hE dL_areSetsSo_105 rfl rfl ?_
    refine gl_iconst (v := (5 : Int32)) (pc' := 108) hE dL_areSetsSo_107 rfl (by decide) ?_
    refine gl_icmp_ge (x := v8) (y := (5 : Int32)) (tgt := 252) (pc' := 111) hE dL_areSetsSo_108 (by decide) rfl (fun c20 => ?_) (fun c20 => ?_)
    · rw [if_pos c20] at h
      cases h
      exact gl_fg [true, true, true, false, false, true, true, true, false, true, true] (by omega) (hk (v7, v8, σ) rfl)
    · rw [if_neg c20] at h
      refine gl_iload (x := (jv_b v7)) (pc' := 113) hE dL_areSetsSo_111 rfl rfl ?_
      refine gl_if_eq (x := (jv_b v7)) (tgt := 252) (pc' := 116) hE dL_areSetsSo_113 (by decide) rfl (fun c21 => ?_) (fun c21 => ?_)
      · have c21 := jv_b0 c21
        rw [if_neg c21] at h
        cases h
        exact gl_fg [true, true, true, false, false, true, true, true, false, true, true] (by omega) (hk (v7, v8, σ) rfl)
      · have c21 := jv_b1 c21
        rw [if_pos c21] at h
        refine gl_aload_n (x := 0) (pc' := 117) hE dL_areSetsSo_116 rfl 0 rfl rfl ?_
        refine gl_iconst (v := (4 : Int32)) (pc' := 118) hE dL_areSetsSo_117 rfl (by decide) ?_
        refine gl_iload_n (x := a1) (pc' := 119) hE dL_areSetsSo_118 rfl 1 rfl rfl ?_
        refine gl_iload_n (x := a2) (pc' := 120) hE dL_areSetsSo_119 rfl 2 rfl rfl ?_
        refine gl_iload (x := v8) (pc' := 122) hE dL_areSetsSo_120 rfl rfl ?_
        obtain ⟨q22, hq22, h⟩ := jv_bd_some h
        refine gl_callW (As := [.ref 0, .int (4 : Int32), .int a1, .int a2, .int v8]) (As1 := [.ref 0, .int (4 : Int32), .int a1, .int a2, .int v8]) (gg := (fun G => G)) (pc' := 125) (v := q22.1) hE (fun _ => gl_s1) gl_b1 dL_areSetsSo_122 rfl lK_L_125 (ok_L_asks hl0 hq22) (fun _ => rfl) rfl (by decide) rfl (Nat.le_of_ble_eq_true rfl) (by omega) ?_
        show gl_V gl_1 E (u + 1) 125 [some (.ref 0), some (.int a1), some (.int a2), some (.int a3), some (.int a4), some (.int a5), some (.int a6), some (.int (jv_b v7)), some (.int v8), none, none] [.int q22.1] q22.2
        refine gl_istore (x := q22.1) (L' := [some (.ref 0), some (.int a1), some (.int a2), some (.int a3), some (.int a4), some (.int a5), some (.int a6), some (.int (jv_b v7)), some (.int v8), some (.int q22.1), none]) (pc' := 127) hE dL_areSetsSo_125 rfl (by decide) rfl rfl ?_
        refine gl_aload_n (x := 0) (pc' := 128) hE dL_areSetsSo_127 rfl 0 rfl rfl ?_
        refine gl_iconst (v := (5 : Int32)) (pc' := 129) hE dL_areSetsSo_128 rfl (by decide) ?_
        refine gl_iload_n (x := a1) (pc' := 130) hE dL_areSetsSo_129 rfl 1 rfl rfl ?_
        refine gl_iload_n (x := a2) (pc' := 131) hE dL_areSetsSo_130 rfl 2 rfl rfl ?_
        refine gl_iload (x := v8) (pc' := 133) hE dL_areSetsSo_131 rfl rfl ?_
        obtain ⟨q23, hq23, h⟩ := jv_bd_some h
        refine gl_callW (As := [.ref 0, .int (5 : Int32), .int a1, .int a2, .int v8]) (As1 := [.ref 0, .int (5 : Int32), .int a1, .int a2, .int v8]) (gg := (fun G => G)) (pc' := 136) (v := q23.1) hE (fun _ => gl_s1) gl_b1 dL_areSetsSo_133 rfl lK_L_125 (ok_L_asks hl0 hq23) (fun _ => rfl) rfl (by decide) rfl (Nat.le_of_ble_eq_true rfl) (by omega) ?_
        show gl_V gl_1 E (u + 2) 136 [some (.ref 0), some (.int a1), some (.int a2), some (.int a3), some (.int a4), some (.int a5), some (.int a6), some (.int (jv_b v7)), some (.int v8), some (.int q22.1), none] [.int q23.1] q23.2
        refine gl_istore (x := q23.1) (L' := [some (.ref 0), some (.int a1), some (.int a2), some (.int a3), some (.int a4), some (.int a5), some (.int a6), some (.int (jv_b v7)), some (.int v8), some (.int q22.1), some (.int q23.1)]) (pc' := 138) hE dL_areSetsSo_136 rfl (by decide) rfl rfl ?_
        refine gl_iload (x := q22.1) (pc' := 140) hE dL_areSetsSo_138 rfl rfl ?_
        obtain ⟨q25, hq25, h⟩ := jv_lt_eq h
        have kq25 : gl_V gl_1 E (u + 2) 148 [some (.ref 0), some (.int a1), some (.int a2), some (.int a3), some (.int a4), some (.int a5), some (.int a6), none, some (.int v8), some (.int q22.1), some (.int q23.1)] [.int (jv_b q25)] q23.2 := by
          refine gl_iload (x := v8) (pc' := 150) hE dL_areSetsSo_148 rfl rfl ?_
          refine gl_iload_n (x := a3) (pc' := 151) hE dL_areSetsSo_150 rfl 3 rfl rfl ?_
          obtain ⟨q27, hq27, h⟩ := jv_lt_eq h
          have kq27 : gl_V gl_1 E (u + 2) 159 [some (.ref 0), some (.int a1), some (.int a2), some (.int a3), some (.int a4), some (.int a5), some (.int a6), none, some (.int v8), some (.int q22.1), some (.int q23.1)] [.int (jv_b q27), .int (jv_b q25)] q23.2 := by
            obtain ⟨q29, hq29, h⟩ := jv_lt_eq h
            have kq29 : gl_V gl_1 E (u + 2) 244 [some (.ref 0), some (.int a1), some (.int a2), some (.int a3), some (.int a4), some (.int a5), some (.int a6), none, some (.int v8), none, none] [.int (jv_b q29)] q23.2 := by
              refine gl_istore (x := (jv_b q29)) (L' := [some (.ref 0), some (.int a1), some (.int a2), some (.int a3), some (.int a4), some (.int a5), some (.int a6), some (.int (jv_b q29)), some (.int v8), none, none]) (pc' := 246) hE dL_areSetsSo_244 rfl (by decide) rfl rfl ?_
              refine gl_iinc (x := v8) (v := (v8 + (1 : Int32))) (L' := [some (.ref 0), some (.int a1), some (.int a2), some (.int a3), some (.int a4), some (.int a5), some (.int a6), some (.int (jv_b q29)), some (.int (v8 + (1 : Int32))), none, none]) (pc' := 249) hE dL_areSetsSo_246 rfl rfl rfl (by decide) rfl rfl ?_
              refine gl_goto (tgt := 105) hE dL_areSetsSo_249 (by decide) ?_
              exact gl_fg [true, true, true, true, true, true, true, true, true, true, true] (Nat.le_refl _) (ih q29 (v8 + (1 : Int32)) q23.2 _ h _ (by omega) hV hk)
            refine gl_icmp_ne (x := (jv_b q25)) (y := (jv_b q27)) (tgt := 243) (pc' := 162) hE dL_areSetsSo_159 (by decide) rfl (fun c28 => ?_) (fun c28 => ?_)
            · rw [if_neg c28] at hq29
              refine gl_iconst (v := (0 : Int32)) (pc' := 244) hE dL_areSetsSo_243 rfl (by decide) ?_
              cases hq29
              exact gl_fg [true, true, true, true, true, true, true, true, true, false, false] (by omega) kq29
            · rw [if_pos c28] at hq29
              refine gl_iload (x := q23.1) (pc' := 164) hE dL_areSetsSo_162 rfl rfl ?_
              obtain ⟨q31, hq31, hq29⟩ := jv_lt_eq hq29
              have kq31 : gl_V gl_1 E (u + 2) 172 [some (.ref 0), some (.int a1), some (.int a2), some (.int a3), some (.int a4), some (.int a5), some (.int a6), none, some (.int v8), some (.int q22.1), some (.int q23.1)] [.int (jv_b q31)] q23.2 := by
                refine gl_iload (x := v8) (pc' := 174) hE dL_areSetsSo_172 rfl rfl ?_
                refine gl_iload (x := a4) (pc' := 176) hE dL_areSetsSo_174 rfl rfl ?_
                obtain ⟨q33, hq33, hq29⟩ := jv_lt_eq hq29
                have kq33 : gl_V gl_1 E (u + 2) 184 [some (.ref 0), some (.int a1), some (.int a2), some (.int a3), some (.int a4), some (.int a5), some (.int a6), none, some (.int v8), some (.int q22.1), some (.int q23.1)] [.int (jv_b q33), .int (jv_b q31)] q23.2 := by
                  refine gl_icmp_ne (x := (jv_b q31)) (y := (jv_b q33)) (tgt := 243) (pc' := 187) hE dL_areSetsSo_184 (by decide) rfl (fun c34 => ?_) (fun c34 => ?_)
                  · rw [if_neg c34] at hq29
                    refine gl_iconst (v := (0 : Int32)) (pc' := 244) hE dL_areSetsSo_243 rfl (by decide) ?_
                    cases hq29
                    exact gl_fg [true, true, true, true, true, true, true, true, true, false, false] (by omega) kq29
                  · rw [if_pos c34] at hq29
                    refine gl_iload (x := q22.1) (pc' := 189) hE dL_areSetsSo_187 rfl rfl ?_
                    refine gl_if_lt (x := q22.1) (tgt := 202) (pc' := 192) hE dL_areSetsSo_189 (by decide) rfl (fun c35 => ?_) (fun c35 => ?_)
                    · rw [if_pos c35] at hq29
                      refine gl_iload (x := q23.1) (pc' := 204) hE dL_areSetsSo_202 rfl rfl ?_
                      refine gl_if_lt (x := q23.1) (tgt := 214) (pc' := 207) hE dL_areSetsSo_204 (by decide) rfl (fun c36 => ?_) (fun c36 => ?_)
                      · rw [if_pos c36] at hq29
                        refine gl_iload (x := v8) (pc' := 216) hE dL_areSetsSo_214 rfl rfl ?_
                        refine gl_iconst (v := (1 : Int32)) (pc' := 217) hE dL_areSetsSo_216 rfl (by decide) ?_
                        refine gl_icmp_gt (x := v8) (y := (1 : Int32)) (tgt := 239) (pc' := 220) hE dL_areSetsSo_217 (by decide) rfl (fun c37 => ?_) (fun c37 => ?_)
                        · rw [if_pos c37] at hq29
                          refine gl_iconst (v := (1 : Int32)) (pc' := 240) hE dL_areSetsSo_239 rfl (by decide) ?_
                          refine gl_goto (tgt := 244) hE dL_areSetsSo_240 (by decide) ?_
                          cases hq29
                          exact gl_fg [true, true, true, true, true, true, true, true, true, false, false] (by omega) kq29
                        · rw [if_neg c37] at hq29
                          refine gl_iload (x := q22.1) (pc' := 222) hE dL_areSetsSo_220 rfl rfl ?_
                          refine gl_iload (x := q23.1) (pc' := 224) hE dL_areSetsSo_222 rfl rfl ?_
                          refine gl_icmp_ne (x := q22.1) (y := q23.1) (tgt := 243) (pc' := 227) hE dL_areSetsSo_224 (by decide) rfl (fun c38 => ?_) (fun c38 => ?_)
                          · rw [if_neg c38] at hq29
                            refine gl_iconst (v := (0 : Int32)) (pc' := 244) hE dL_areSetsSo_243 rfl (by decide) ?_
                            cases hq29
                            exact gl_fg [true, true, true, true, true, true, true, true, true, false, false] (by omega) kq29
                          · rw [if_pos c38] at hq29
                            refine gl_iload (x := q22.1) (pc' := 229) hE dL_areSetsSo_227 rfl rfl ?_
                            refine gl_iload (x := a5) (pc' := 231) hE dL_areSetsSo_229 rfl rfl ?_
                            refine gl_icmp_eq (x := q22.1) (y := a5) (tgt := 239) (pc' := 234) hE dL_areSetsSo_231 (by decide) rfl (fun c39 => ?_) (fun c39 => ?_)
                            · rw [if_pos c39] at hq29
                              refine gl_iconst (v := (1 : Int32)) (pc' := 240) hE dL_areSetsSo_239 rfl (by decide) ?_
                              refine gl_goto (tgt := 244) hE dL_areSetsSo_240 (by decide) ?_
                              cases hq29
                              exact gl_fg [true, true, true, true, true, true, true, true, true, false, false] (by omega) kq29
                            · rw [if_neg c39] at hq29
                              refine gl_iload (x := q22.1) (pc' := 236) hE dL_areSetsSo_234 rfl rfl ?_
                              refine gl_if_ge (x := q22.1) (tgt := 243) (pc' := 239) hE dL_areSetsSo_236 (by decide) rfl (fun c40 => ?_) (fun c40 => ?_)
                              · rw [if_pos c40] at hq29
                                refine gl_iconst (v := (0 : Int32)) (pc' := 244) hE dL_areSetsSo_243 rfl (by decide) ?_
                                cases hq29
                                exact gl_fg [true, true, true, true, true, true, true, true, true, false, false] (by omega) kq29
                              · rw [if_neg c40] at hq29
                                refine gl_iconst (v := (1 : Int32)) (pc' := 240) hE dL_areSetsSo_239 rfl (by decide) ?_
                                refine gl_goto (tgt := 244) hE dL_areSetsSo_240 (by decide) ?_
                                cases hq29
                                exact gl_fg [true, true, true, true, true, true, true, true, true, false, false] (by omega) kq29
                      · rw [if_neg c36] at hq29
                        refine gl_iload (x := q23.1) (pc' := 209) hE dL_areSetsSo_207 rfl rfl ?_
                        refine gl_iload (x := q22.1) (pc' := 211) hE dL_areSetsSo_209 rfl rfl ?_
                        refine gl_icmp_lt (x := q23.1) (y := q22.1) (tgt := 243) (pc' := 214) hE dL_areSetsSo_211 (by decide) rfl (fun c41 => ?_) (fun c41 => ?_)
                        · rw [if_pos c41] at hq29
                          refine gl_iconst (v := (0 : Int32)) (pc' := 244) hE dL_areSetsSo_243 rfl (by decide) ?_
                          cases hq29
                          exact gl_fg [true, true, true, true, true, true, true, true, true, false, false] (by omega) kq29
                        · rw [if_neg c41] at hq29
                          refine gl_iload (x := v8) (pc' := 216) hE dL_areSetsSo_214 rfl rfl ?_
                          refine gl_iconst (v := (1 : Int32)) (pc' := 217) hE dL_areSetsSo_216 rfl (by decide) ?_
                          refine gl_icmp_gt (x := v8) (y := (1 : Int32)) (tgt := 239) (pc' := 220) hE dL_areSetsSo_217 (by decide) rfl (fun c42 => ?_) (fun c42 => ?_)
                          · rw [if_pos c42] at hq29
                            refine gl_iconst (v := (1 : Int32)) (pc' := 240) hE dL_areSetsSo_239 rfl (by decide) ?_
                            refine gl_goto (tgt := 244) hE dL_areSetsSo_240 (by decide) ?_
                            cases hq29
                            exact gl_fg [true, true, true, true, true, true, true, true, true, false, false] (by omega) kq29
                          · rw [if_neg c42] at hq29
                            refine gl_iload (x := q22.1) (pc' := 222) hE dL_areSetsSo_220 rfl rfl ?_
                            refine gl_iload (x := q23.1) (pc' := 224) hE dL_areSetsSo_222 rfl rfl ?_
                            refine gl_icmp_ne (x := q22.1) (y := q23.1) (tgt := 243) (pc' := 227) hE dL_areSetsSo_224 (by decide) rfl (fun c43 => ?_) (fun c43 => ?_)
                            · rw [if_neg c43] at hq29
                              refine gl_iconst (v := (0 : Int32)) (pc' := 244) hE dL_areSetsSo_243 rfl (by decide) ?_
                              cases hq29
                              exact gl_fg [true, true, true, true, true, true, true, true, true, false, false] (by omega) kq29
                            · rw [if_pos c43] at hq29
                              refine gl_iload (x := q22.1) (pc' := 229) hE dL_areSetsSo_227 rfl rfl ?_
                              refine gl_iload (x := a5) (pc' := 231) hE dL_areSetsSo_229 rfl rfl ?_
                              refine gl_icmp_eq (x := q22.1) (y := a5) (tgt := 239) (pc' := 234) hE dL_areSetsSo_231 (by decide) rfl (fun c44 => ?_) (fun c44 => ?_)
                              · rw [if_pos c44] at hq29
                                refine gl_iconst (v := (1 : Int32)) (pc' := 240) hE dL_areSetsSo_239 rfl (by decide) ?_
                                refine gl_goto (tgt := 244) hE dL_areSetsSo_240 (by decide) ?_
                                cases hq29
                                exact gl_fg [true, true, true, true, true, true, true, true, true, false, false] (by omega) kq29
                              · rw [if_neg c44] at hq29
                                refine gl_iload (x := q22.1) (pc' := 236) hE dL_areSetsSo_234 rfl rfl ?_
                                refine gl_if_ge (x := q22.1) (tgt := 243) (pc' := 239) hE dL_areSetsSo_236 (by decide) rfl (fun c45 => ?_) (fun c45 => ?_)
                                · rw [if_pos c45] at hq29
                                  refine gl_iconst (v := (0 : Int32)) (pc' := 244) hE dL_areSetsSo_243 rfl (by decide) ?_
                                  cases hq29
                                  exact gl_fg [true, true, true, true, true, true, true, true, true, false, false] (by omega) kq29
                                · rw [if_neg c45] at hq29
                                  refine gl_iconst (v := (1 : Int32)) (pc' := 240) hE dL_areSetsSo_239 rfl (by decide) ?_
                                  refine gl_goto (tgt := 244) hE dL_areSetsSo_240 (by decide) ?_
                                  cases hq29
                                  exact gl_fg [true, true, true, true, true, true, true, true, true, false, false] (by omega) kq29
                    · rw [if_neg c35] at hq29
                      refine gl_iload (x := q22.1) (pc' := 194) hE dL_areSetsSo_192 rfl rfl ?_
                      refine gl_iload (x := v8) (pc' := 196) hE dL_areSetsSo_194 rfl rfl ?_
                      refine gl_iload (x := a5) (pc' := 198) hE dL_areSetsSo_196 rfl rfl ?_
                      refine gl_imul (x := v8) (y := a5) (pc' := 199) hE dL_areSetsSo_198 rfl ?_
                      refine gl_icmp_lt (x := q22.1) (y := (v8 * a5)) (tgt := 243) (pc' := 202) hE dL_areSetsSo_199 (by decide) rfl (fun c46 => ?_) (fun c46 => ?_)
                      · rw [if_pos c46] at hq29
                        refine gl_iconst (v := (0 : Int32)) (pc' := 244) hE dL_areSetsSo_243 rfl (by decide) ?_
                        cases hq29
                        exact gl_fg [true, true, true, true, true, true, true, true, true, false, false] (by omega) kq29
                      · rw [if_neg c46] at hq29
                        refine gl_iload (x := q23.1) (pc' := 204) hE dL_areSetsSo_202 rfl rfl ?_
                        refine gl_if_lt (x := q23.1) (tgt := 214) (pc' := 207) hE dL_areSetsSo_204 (by decide) rfl (fun c47 => ?_) (fun c47 => ?_)
                        · rw [if_pos c47] at hq29
                          refine gl_iload (x := v8) (pc' := 216) hE dL_areSetsSo_214 rfl rfl ?_
                          refine gl_iconst (v := (1 : Int32)) (pc' := 217) hE dL_areSetsSo_216 rfl (by decide) ?_
                          refine gl_icmp_gt (x := v8) (y := (1 : Int32)) (tgt := 239) (pc' := 220) hE dL_areSetsSo_217 (by decide) rfl (fun c48 => ?_) (fun c48 => ?_)
                          · rw [if_pos c48] at hq29
                            refine gl_iconst (v := (1 : Int32)) (pc' := 240) hE dL_areSetsSo_239 rfl (by decide) ?_
                            refine gl_goto (tgt := 244) hE dL_areSetsSo_240 (by decide) ?_
                            cases hq29
                            exact gl_fg [true, true, true, true, true, true, true, true, true, false, false] (by omega) kq29
                          · rw [if_neg c48] at hq29
                            refine gl_iload (x := q22.1) (pc' := 222) hE dL_areSetsSo_220 rfl rfl ?_
                            refine gl_iload (x := q23.1) (pc' := 224) hE dL_areSetsSo_222 rfl rfl ?_
                            refine gl_icmp_ne (x := q22.1) (y := q23.1) (tgt := 243) (pc' := 227) hE dL_areSetsSo_224 (by decide) rfl (fun c49 => ?_) (fun c49 => ?_)
                            · rw [if_neg c49] at hq29
                              refine gl_iconst (v := (0 : Int32)) (pc' := 244) hE dL_areSetsSo_243 rfl (by decide) ?_
                              cases hq29
                              exact gl_fg [true, true, true, true, true, true, true, true, true, false, false] (by omega) kq29
                            · rw [if_pos c49] at hq29
                              refine gl_iload (x := q22.1) (pc' := 229) hE dL_areSetsSo_227 rfl rfl ?_
                              refine gl_iload (x := a5) (pc' := 231) hE dL_areSetsSo_229 rfl rfl ?_
                              refine gl_icmp_eq (x := q22.1) (y := a5) (tgt := 239) (pc' := 234) hE dL_areSetsSo_231 (by decide) rfl (fun c50 => ?_) (fun c50 => ?_)
                              · rw [if_pos c50] at hq29
                                refine gl_iconst (v := (1 : Int32)) (pc' := 240) hE dL_areSetsSo_239 rfl (by decide) ?_
                                refine gl_goto (tgt := 244) hE dL_areSetsSo_240 (by decide) ?_
                                cases hq29
                                exact gl_fg [true, true, true, true, true, true, true, true, true, false, false] (by omega) kq29
                              · rw [if_neg c50] at hq29
                                refine gl_iload (x := q22.1) (pc' := 236) hE dL_areSetsSo_234 rfl rfl ?_
                                refine gl_if_ge (x := q22.1) (tgt := 243) (pc' := 239) hE dL_areSetsSo_236 (by decide) rfl (fun c51 => ?_) (fun c51 => ?_)
                                · rw [if_pos c51] at hq29
                                  refine gl_iconst (v := (0 : Int32)) (pc' := 244) hE dL_areSetsSo_243 rfl (by decide) ?_
                                  cases hq29
                                  exact gl_fg [true, true, true, true, true, true, true, true, true, false, false] (by omega) kq29
                                · rw [if_neg c51] at hq29
                                  refine gl_iconst (v := (1 : Int32)) (pc' := 240) hE dL_areSetsSo_239 rfl (by decide) ?_
                                  refine gl_goto (tgt := 244) hE dL_areSetsSo_240 (by decide) ?_
                                  cases hq29
                                  exact gl_fg [true, true, true, true, true, true, true, true, true, false, false] (by omega) kq29
                        · rw [if_neg c47] at hq29
                          refine gl_iload (x := q23.1) (pc' := 209) hE dL_areSetsSo_207 rfl rfl ?_
                          refine gl_iload (x := q22.1) (pc' := 211) hE dL_areSetsSo_209 rfl rfl ?_
                          refine gl_icmp_lt (x := q23.1) (y := q22.1) (tgt := 243) (pc' := 214) hE dL_areSetsSo_211 (by decide) rfl (fun c52 => ?_) (fun c52 => ?_)
                          · rw [if_pos c52] at hq29
                            refine gl_iconst (v := (0 : Int32)) (pc' := 244) hE dL_areSetsSo_243 rfl (by decide) ?_
                            cases hq29
                            exact gl_fg [true, true, true, true, true, true, true, true, true, false, false] (by omega) kq29
                          · rw [if_neg c52] at hq29
                            refine gl_iload (x := v8) (pc' := 216) hE dL_areSetsSo_214 rfl rfl ?_
                            refine gl_iconst (v := (1 : Int32)) (pc' := 217) hE dL_areSetsSo_216 rfl (by decide) ?_
                            refine gl_icmp_gt (x := v8) (y := (1 : Int32)) (tgt := 239) (pc' := 220) hE dL_areSetsSo_217 (by decide) rfl (fun c53 => ?_) (fun c53 => ?_)
                            · rw [if_pos c53] at hq29
                              refine gl_iconst (v := (1 : Int32)) (pc' := 240) hE dL_areSetsSo_239 rfl (by decide) ?_
                              refine gl_goto (tgt := 244) hE dL_areSetsSo_240 (by decide) ?_
                              cases hq29
                              exact gl_fg [true, true, true, true, true, true, true, true, true, false, false] (by omega) kq29
                            · rw [if_neg c53] at hq29
                              refine gl_iload (x := q22.1) (pc' := 222) hE dL_areSetsSo_220 rfl rfl ?_
                              refine gl_iload (x := q23.1) (pc' := 224) hE dL_areSetsSo_222 rfl rfl ?_
                              refine gl_icmp_ne (x := q22.1) (y := q23.1) (tgt := 243) (pc' := 227) hE dL_areSetsSo_224 (by decide) rfl (fun c54 => ?_) (fun c54 => ?_)
                              · rw [if_neg c54] at hq29
                                refine gl_iconst (v := (0 : Int32)) (pc' := 244) hE dL_areSetsSo_243 rfl (by decide) ?_
                                cases hq29
                                exact gl_fg [true, true, true, true, true, true, true, true, true, false, false] (by omega) kq29
                              · rw [if_pos c54] at hq29
                                refine gl_iload (x := q22.1) (pc' := 229) hE dL_areSetsSo_227 rfl rfl ?_
                                refine gl_iload (x := a5) (pc' := 231) hE dL_areSetsSo_229 rfl rfl ?_
                                refine gl_icmp_eq (x := q22.1) (y := a5) (tgt := 239) (pc' := 234) hE dL_areSetsSo_231 (by decide) rfl (fun c55 => ?_) (fun c55 => ?_)
                                · rw [if_pos c55] at hq29
                                  refine gl_iconst (v := (1 : Int32)) (pc' := 240) hE dL_areSetsSo_239 rfl (by decide) ?_
                                  refine gl_goto (tgt := 244) hE dL_areSetsSo_240 (by decide) ?_
                                  cases hq29
                                  exact gl_fg [true, true, true, true, true, true, true, true, true, false, false] (by omega) kq29
                                · rw [if_neg c55] at hq29
                                  refine gl_iload (x := q22.1) (pc' := 236) hE dL_areSetsSo_234 rfl rfl ?_
                                  refine gl_if_ge (x := q22.1) (tgt := 243) (pc' := 239) hE dL_areSetsSo_236 (by decide) rfl (fun c56 => ?_) (fun c56 => ?_)
                                  · rw [if_pos c56] at hq29
                                    refine gl_iconst (v := (0 : Int32)) (pc' := 244) hE dL_areSetsSo_243 rfl (by decide) ?_
                                    cases hq29
                                    exact gl_fg [true, true, true, true, true, true, true, true, true, false, false] (by omega) kq29
                                  · rw [if_neg c56] at hq29
                                    refine gl_iconst (v := (1 : Int32)) (pc' := 240) hE dL_areSetsSo_239 rfl (by decide) ?_
                                    refine gl_goto (tgt := 244) hE dL_areSetsSo_240 (by decide) ?_
                                    cases hq29
                                    exact gl_fg [true, true, true, true, true, true, true, true, true, false, false] (by omega) kq29
                refine gl_icmp_gt (x := v8) (y := a4) (tgt := 183) (pc' := 179) hE dL_areSetsSo_176 (by decide) rfl (fun c32 => ?_) (fun c32 => ?_)
                · rw [if_pos c32] at hq33
                  refine gl_iconst (v := (0 : Int32)) (pc' := 184) hE dL_areSetsSo_183 rfl (by decide) ?_
                  cases hq33
                  exact gl_fg [true, true, true, true, true, true, true, true, true, true, true] (by omega) kq33
                · rw [if_neg c32] at hq33
                  refine gl_iconst (v := (1 : Int32)) (pc' := 180) hE dL_areSetsSo_179 rfl (by decide) ?_
                  refine gl_goto (tgt := 184) hE dL_areSetsSo_180 (by decide) ?_
                  cases hq33
                  exact gl_fg [true, true, true, true, true, true, true, true, true, true, true] (by omega) kq33
              refine gl_if_lt (x := q23.1) (tgt := 171) (pc' := 167) hE dL_areSetsSo_164 (by decide) rfl (fun c30 => ?_) (fun c30 => ?_)
              · rw [if_pos c30] at hq31
                refine gl_iconst (v := (0 : Int32)) (pc' := 172) hE dL_areSetsSo_171 rfl (by decide) ?_
                cases hq31
                exact gl_fg [true, true, true, true, true, true, true, true, true, true, true] (by omega) kq31
              · rw [if_neg c30] at hq31
                refine gl_iconst (v := (1 : Int32)) (pc' := 168) hE dL_areSetsSo_167 rfl (by decide) ?_
                refine gl_goto (tgt := 172) hE dL_areSetsSo_168 (by decide) ?_
                cases hq31
                exact gl_fg [true, true, true, true, true, true, true, true, true, true, true] (by omega) kq31
          refine gl_icmp_gt (x := v8) (y := a3) (tgt := 158) (pc' := 154) hE dL_areSetsSo_151 (by decide) rfl (fun c26 => ?_) (fun c26 => ?_)
          · rw [if_pos c26] at hq27
            refine gl_iconst (v := (0 : Int32)) (pc' := 159) hE dL_areSetsSo_158 rfl (by decide) ?_
            cases hq27
            exact gl_fg [true, true, true, true, true, true, true, true, true, true, true] (by omega) kq27
          · rw [if_neg c26] at hq27
            refine gl_iconst (v := (1 : Int32)) (pc' := 155) hE dL_areSetsSo_154 rfl (by decide) ?_
            refine gl_goto (tgt := 159) hE dL_areSetsSo_155 (by decide) ?_
            cases hq27
            exact gl_fg [true, true, true, true, true, true, true, true, true, true, true] (by omega) kq27
        refine gl_if_lt (x := q22.1) (tgt := 147) (pc' := 143) hE dL_areSetsSo_140 (by decide) rfl (fun c24 => ?_) (fun c24 => ?_)
        · rw [if_pos c24] at hq25
          refine gl_iconst (v := (0 : Int32)) (pc' := 148) hE dL_areSetsSo_147 rfl (by decide) ?_
          cases hq25
          exact gl_fg [true, true, true, true, true, true, true, false, true, true, true] (by omega) kq25
        · rw [if_neg c24] at hq25
          refine gl_iconst (v := (1 : Int32)) (pc' := 144) hE dL_areSetsSo_143 rfl (by decide) ?_
          refine gl_goto (tgt := 148) hE dL_areSetsSo_144 (by decide) ?_
          cases hq25
          exact gl_fg [true, true, true, true, true, true, true, false, true, true, true] (by omega) kq25
set_option maxRecDepth 100000 in
set_option maxHeartbeats 4000000 in
theorem ok_L_areSetsSo {G : jv_G} {l : Launch} (hl0 : l.stackTraces = false) {σ : jv_S} {p1 : Int32} {p2 : Int32} {r : Bool × jv_S} (h : f_L_areSetsSo σ p1 p2 = some r) : gl_M0 gl_1 G l 9 M_L_areSetsSo (gl_cd M_L_areSetsSo) [.ref 0, .int p1, .int p2] σ (jv_b r.1) r.2 13 := by
  refine gl_of (L0 := [some (.ref 0), some (.int p1), some (.int p2), none, none, none, none, none, none, none, none]) (Or.inl rfl) (by decide +kernel) (Nat.le_of_ble_eq_true rfl) rfl (jv_okZ _) (fun _ _ h => h.1) (fun E e1 e2 hE hT hret => ?_)
  subst e1; subst e2
  unfold f_L_areSetsSo at h
  refine gl_aload_n (x := 0) (pc' := 1) hE dL_areSetsSo_0 rfl 0 rfl rfl ?_
  refine gl_iload_n (x := p1) (pc' := 2) hE dL_areSetsSo_1 rfl 1 rfl rfl ?_
  refine gl_iload_n (x := p2) (pc' := 3) hE dL_areSetsSo_2 rfl 2 rfl rfl ?_
  refine gl_iconst (v := (0 : Int32)) (pc' := 4) hE dL_areSetsSo_3 rfl (by decide) ?_
  obtain ⟨⟨q1a, q1b⟩, hq1, h⟩ := jv_bd_some h
  dsimp only at h
  have zq1 := jv_xe_or h
  clear h
  rcases zq1 with ⟨e0, eq1, h⟩ | ⟨v2, eq1, h⟩
  · cases h
  · subst eq1
    refine gl_callV (k1 := 0) (o := some (.int v2)) (As := [.int p1, .int p2, .int (0 : Int32)]) (As1 := [.int p1, .int p2, .int (0 : Int32)]) (gg := (fun G => G)) (pc' := 7) hE (fun _ => gl_s1) dL_areSetsSo_4 rfl lV_L_133 (ok_X7_disjointPaths hq1) (fun _ => rfl) (fun _ => rfl) (fun _ => rfl) (fun _ => rfl) rfl rfl rfl (by decide) rfl (Nat.le_of_ble_eq_true rfl) (by omega) ?_
    show gl_V gl_1 E 0 7 [some (.ref 0), some (.int p1), some (.int p2), none, none, none, none, none, none, none, none] [.int v2] q1b
    refine gl_istore_n (x := v2) (L' := [some (.ref 0), some (.int p1), some (.int p2), some (.int v2), none, none, none, none, none, none, none]) (pc' := 8) hE dL_areSetsSo_7 rfl 3 rfl (by decide) rfl rfl ?_
    refine gl_aload_n (x := 0) (pc' := 9) hE dL_areSetsSo_8 rfl 0 rfl rfl ?_
    refine gl_iload_n (x := p1) (pc' := 10) hE dL_areSetsSo_9 rfl 1 rfl rfl ?_
    refine gl_iload_n (x := p2) (pc' := 11) hE dL_areSetsSo_10 rfl 2 rfl rfl ?_
    refine gl_iconst (v := (1 : Int32)) (pc' := 12) hE dL_areSetsSo_11 rfl (by decide) ?_
    obtain ⟨⟨q3a, q3b⟩, hq3, h⟩ := jv_bd_some h
    dsimp only at h
    have zq3 := jv_xe_or h
    clear h
    rcases zq3 with ⟨e0, eq3, h⟩ | ⟨v4, eq3, h⟩
    · cases h
    · subst eq3
      refine gl_callV (k1 := 0) (o := some (.int v4)) (As := [.int p1, .int p2, .int (1 : Int32)]) (As1 := [.int p1, .int p2, .int (1 : Int32)]) (gg := (fun G => G)) (pc' := 15) hE (fun _ => gl_s1) dL_areSetsSo_12 rfl lV_L_133 (ok_X7_disjointPaths hq3) (fun _ => rfl) (fun _ => rfl) (fun _ => rfl) (fun _ => rfl) rfl rfl rfl (by decide) rfl (Nat.le_of_ble_eq_true rfl) (by omega) ?_
      show gl_V gl_1 E 0 15 [some (.ref 0), some (.int p1), some (.int p2), some (.int v2), none, none, none, none, none, none, none] [.int v4] q3b
      refine gl_istore (x := v4) (L' := [some (.ref 0), some (.int p1), some (.int p2), some (.int v2), some (.int v4), none, none, none, none, none, none]) (pc' := 17) hE dL_areSetsSo_15 rfl (by decide) rfl rfl ?_
      refine gl_aload_n (x := 0) (pc' := 18) hE dL_areSetsSo_17 rfl 0 rfl rfl ?_
      refine gl_iconst (v := (0 : Int32)) (pc' := 19) hE dL_areSetsSo_18 rfl (by decide) ?_
      refine gl_iload_n (x := p1) (pc' := 20) hE dL_areSetsSo_19 rfl 1 rfl rfl ?_
      refine gl_iload_n (x := p2) (pc' := 21) hE dL_areSetsSo_20 rfl 2 rfl rfl ?_
      refine gl_iconst (v := (0 : Int32)) (pc' := 22) hE dL_areSetsSo_21 rfl (by decide) ?_
      obtain ⟨q5, hq5, h⟩ := jv_bd_some h
      refine gl_callW (As := [.ref 0, .int (0 : Int32), .int p1, .int p2, .int (0 : Int32)]) (As1 := [.ref 0, .int (0 : Int32), .int p1, .int p2, .int (0 : Int32)]) (gg := (fun G => G)) (pc' := 25) (v := q5.1) hE (fun _ => gl_s1) gl_b1 dL_areSetsSo_22 rfl lK_L_125 (ok_L_asks hl0 hq5) (fun _ => rfl) rfl (by decide) rfl (Nat.le_of_ble_eq_true rfl) (by omega) ?_
      show gl_V gl_1 E 1 25 [some (.ref 0), some (.int p1), some (.int p2), some (.int v2), some (.int v4), none, none, none, none, none, none] [.int q5.1] q5.2
      refine gl_istore (x := q5.1) (L' := [some (.ref 0), some (.int p1), some (.int p2), some (.int v2), some (.int v4), some (.int q5.1), none, none, none, none, none]) (pc' := 27) hE dL_areSetsSo_25 rfl (by decide) rfl rfl ?_
      refine gl_aload_n (x := 0) (pc' := 28) hE dL_areSetsSo_27 rfl 0 rfl rfl ?_
      refine gl_iconst (v := (1 : Int32)) (pc' := 29) hE dL_areSetsSo_28 rfl (by decide) ?_
      refine gl_iload_n (x := p1) (pc' := 30) hE dL_areSetsSo_29 rfl 1 rfl rfl ?_
      refine gl_iload_n (x := p2) (pc' := 31) hE dL_areSetsSo_30 rfl 2 rfl rfl ?_
      refine gl_iconst (v := (0 : Int32)) (pc' := 32) hE dL_areSetsSo_31 rfl (by decide) ?_
      obtain ⟨q6, hq6, h⟩ := jv_bd_some h
      refine gl_callW (As := [.ref 0, .int (1 : Int32), .int p1, .int p2, .int (0 : Int32)]) (As1 := [.ref 0, .int (1 : Int32), .int p1, .int p2, .int (0 : Int32)]) (gg := (fun G => G)) (pc' := 35) (v := q6.1) hE (fun _ => gl_s1) gl_b1 dL_areSetsSo_32 rfl lK_L_125 (ok_L_asks hl0 hq6) (fun _ => rfl) rfl (by decide) rfl (Nat.le_of_ble_eq_true rfl) (by omega) ?_
      show gl_V gl_1 E 2 35 [some (.ref 0), some (.int p1), some (.int p2), some (.int v2), some (.int v4), some (.int q5.1), none, none, none, none, none] [.int q6.1] q6.2
      refine gl_istore (x := q6.1) (L' := [some (.ref 0), some (.int p1), some (.int p2), some (.int v2), some (.int v4), some (.int q5.1), some (.int q6.1), none, none, none, none]) (pc' := 37) hE dL_areSetsSo_35 rfl (by decide) rfl rfl ?_
      refine gl_iload (x := v4) (pc' := 39) hE dL_areSetsSo_37 rfl rfl ?_
      refine gl_iload_n (x := v2) (pc' := 40) hE dL_areSetsSo_39 rfl 3 rfl rfl ?_
      obtain ⟨q8, hq8, h⟩ := jv_lt_eq h
      have kq8 : gl_V gl_1 E 2 100 [some (.ref 0), some (.int p1), some (.int p2), some (.int v2), some (.int v4), some (.int q5.1), some (.int q6.1), none, none, none, none] [.int (jv_b q8)] q6.2 := by
        refine gl_istore (x := (jv_b q8)) (L' := [some (.ref 0), some (.int p1), some (.int p2), some (.int v2), some (.int v4), some (.int q5.1), some (.int q6.1), some (.int (jv_b q8)), none, none, none]) (pc' := 102) hE dL_areSetsSo_100 rfl (by decide) rfl rfl ?_
        refine gl_iconst (v := (1 : Int32)) (pc' := 103) hE dL_areSetsSo_102 rfl (by decide) ?_
        refine gl_istore (x := (1 : Int32)) (L' := [some (.ref 0), some (.int p1), some (.int p2), some (.int v2), some (.int v4), some (.int q5.1), some (.int q6.1), some (.int (jv_b q8)), some (.int (1 : Int32)), none, none]) (pc' := 105) hE dL_areSetsSo_103 rfl (by decide) rfl rfl ?_
        obtain ⟨q57, hq57, h⟩ := jv_bd_some h
        refine gl_fg [true, true, true, true, true, true, true, true, true, true, true] (Nat.le_refl _) (lp_L_areSetsSo_105 hl0 hE 5 q8 (1 : Int32) q6.2 _ hq57 _ (V := 12) (by omega) (by omega) (fun z hz => ?_))
        subst hz
        refine gl_iload (x := (jv_b q57.1)) (pc' := 254) hE dL_areSetsSo_252 rfl rfl ?_
        obtain ⟨q59, hq59, h⟩ := jv_bd_some h
        have kq59 : gl_V gl_1 E 13 291 [none, none, none, none, none, none, none, none, none, none, none] [.int (jv_b q59.1)] q59.2 := by
          cases h
          exact hret _ _ _ (by omega) dL_areSetsSo_291
        refine gl_if_eq (x := (jv_b q57.1)) (tgt := 290) (pc' := 257) hE dL_areSetsSo_254 (by decide) rfl (fun c58 => ?_) (fun c58 => ?_)
        · have c58 := jv_b0 c58
          rw [if_neg c58] at hq59
          refine gl_iconst (v := (0 : Int32)) (pc' := 291) hE dL_areSetsSo_290 rfl (by decide) ?_
          cases hq59
          exact gl_fg [false, false, false, true, true, false, false, false, true, true, true] (by omega) kq59
        · have c58 := jv_b1 c58
          rw [if_pos c58] at hq59
          refine gl_iload (x := q6.1) (pc' := 259) hE dL_areSetsSo_257 rfl rfl ?_
          refine gl_if_lt (x := q6.1) (tgt := 286) (pc' := 262) hE dL_areSetsSo_259 (by decide) rfl (fun c60 => ?_) (fun c60 => ?_)
          · rw [if_pos c60] at hq59
            refine gl_iconst (v := (1 : Int32)) (pc' := 287) hE dL_areSetsSo_286 rfl (by decide) ?_
            refine gl_goto (tgt := 291) hE dL_areSetsSo_287 (by decide) ?_
            cases hq59
            exact gl_fg [false, false, false, true, true, false, false, false, true, true, true] (by omega) kq59
          · rw [if_neg c60] at hq59
            refine gl_iload (x := q6.1) (pc' := 264) hE dL_areSetsSo_262 rfl rfl ?_
            refine gl_iload (x := q5.1) (pc' := 266) hE dL_areSetsSo_264 rfl rfl ?_
            refine gl_icmp_lt (x := q6.1) (y := q5.1) (tgt := 290) (pc' := 269) hE dL_areSetsSo_266 (by decide) rfl (fun c61 => ?_) (fun c61 => ?_)
            · rw [if_pos c61] at hq59
              refine gl_iconst (v := (0 : Int32)) (pc' := 291) hE dL_areSetsSo_290 rfl (by decide) ?_
              cases hq59
              exact gl_fg [false, false, false, true, true, false, false, false, true, true, true] (by omega) kq59
            · rw [if_neg c61] at hq59
              refine gl_iload (x := q5.1) (pc' := 271) hE dL_areSetsSo_269 rfl rfl ?_
              refine gl_if_lt (x := q5.1) (tgt := 290) (pc' := 274) hE dL_areSetsSo_271 (by decide) rfl (fun c62 => ?_) (fun c62 => ?_)
              · rw [if_pos c62] at hq59
                refine gl_iconst (v := (0 : Int32)) (pc' := 291) hE dL_areSetsSo_290 rfl (by decide) ?_
                cases hq59
                exact gl_fg [false, false, false, true, true, false, false, false, true, true, true] (by omega) kq59
              · rw [if_neg c62] at hq59
                refine gl_aload_n (x := 0) (pc' := 275) hE dL_areSetsSo_274 rfl 0 rfl rfl ?_
                refine gl_iconst (v := (2 : Int32)) (pc' := 276) hE dL_areSetsSo_275 rfl (by decide) ?_
                refine gl_iload_n (x := p1) (pc' := 277) hE dL_areSetsSo_276 rfl 1 rfl rfl ?_
                refine gl_iload_n (x := p2) (pc' := 278) hE dL_areSetsSo_277 rfl 2 rfl rfl ?_
                refine gl_iconst (v := (0 : Int32)) (pc' := 279) hE dL_areSetsSo_278 rfl (by decide) ?_
                obtain ⟨q63, hq63, hq59⟩ := jv_bd_some hq59
                refine gl_callW (As := [.ref 0, .int (2 : Int32), .int p1, .int p2, .int (0 : Int32)]) (As1 := [.ref 0, .int (2 : Int32), .int p1, .int p2, .int (0 : Int32)]) (gg := (fun G => G)) (pc' := 282) (v := q63.1) hE (fun _ => gl_s1) gl_b1 dL_areSetsSo_279 rfl lK_L_125 (ok_L_asks hl0 hq63) (fun _ => rfl) rfl (by decide) rfl (Nat.le_of_ble_eq_true rfl) (by omega) ?_
                show gl_V gl_1 E 13 282 [some (.ref 0), some (.int p1), some (.int p2), none, none, some (.int q5.1), some (.int q6.1), some (.int (jv_b q57.1)), none, none, none] [.int q63.1] q63.2
                refine gl_iconst (v := (1 : Int32)) (pc' := 283) hE dL_areSetsSo_282 rfl (by decide) ?_
                refine gl_icmp_lt (x := q63.1) (y := (1 : Int32)) (tgt := 290) (pc' := 286) hE dL_areSetsSo_283 (by decide) rfl (fun c64 => ?_) (fun c64 => ?_)
                · rw [if_pos c64] at hq59
                  refine gl_iconst (v := (0 : Int32)) (pc' := 291) hE dL_areSetsSo_290 rfl (by decide) ?_
                  cases hq59
                  exact gl_fg [false, false, false, true, true, false, false, false, true, true, true] (by omega) kq59
                · rw [if_neg c64] at hq59
                  refine gl_iconst (v := (1 : Int32)) (pc' := 287) hE dL_areSetsSo_286 rfl (by decide) ?_
                  refine gl_goto (tgt := 291) hE dL_areSetsSo_287 (by decide) ?_
                  cases hq59
                  exact gl_fg [false, false, false, true, true, false, false, false, true, true, true] (by omega) kq59
      refine gl_icmp_gt (x := v4) (y := v2) (tgt := 99) (pc' := 43) hE dL_areSetsSo_40 (by decide) rfl (fun c7 => ?_) (fun c7 => ?_)
      · rw [if_pos c7] at hq8
        refine gl_iconst (v := (0 : Int32)) (pc' := 100) hE dL_areSetsSo_99 rfl (by decide) ?_
        cases hq8
        exact gl_fg [true, true, true, true, true, true, true, true, true, true, true] (by omega) kq8
      · rw [if_neg c7] at hq8
        refine gl_iload (x := v4) (pc' := 45) hE dL_areSetsSo_43 rfl rfl ?_
        obtain ⟨q10, hq10, hq8⟩ := jv_lt_eq hq8
        have kq10 : gl_V gl_1 E 2 53 [some (.ref 0), some (.int p1), some (.int p2), some (.int v2), some (.int v4), some (.int q5.1), some (.int q6.1), none, none, none, none] [.int (jv_b q10)] q6.2 := by
          refine gl_iload_n (x := v2) (pc' := 54) hE dL_areSetsSo_53 rfl 3 rfl rfl ?_
          obtain ⟨q12, hq12, hq8⟩ := jv_lt_eq hq8
          have kq12 : gl_V gl_1 E 2 62 [some (.ref 0), some (.int p1), some (.int p2), some (.int v2), some (.int v4), some (.int q5.1), some (.int q6.1), none, none, none, none] [.int (jv_b q12), .int (jv_b q10)] q6.2 := by
            refine gl_icmp_ne (x := (jv_b q10)) (y := (jv_b q12)) (tgt := 99) (pc' := 65) hE dL_areSetsSo_62 (by decide) rfl (fun c13 => ?_) (fun c13 => ?_)
            · rw [if_neg c13] at hq8
              refine gl_iconst (v := (0 : Int32)) (pc' := 100) hE dL_areSetsSo_99 rfl (by decide) ?_
              cases hq8
              exact gl_fg [true, true, true, true, true, true, true, true, true, true, true] (by omega) kq8
            · rw [if_pos c13] at hq8
              refine gl_iload_n (x := v2) (pc' := 66) hE dL_areSetsSo_65 rfl 3 rfl rfl ?_
              obtain ⟨q15, hq15, hq8⟩ := jv_lt_eq hq8
              have kq15 : gl_V gl_1 E 2 74 [some (.ref 0), some (.int p1), some (.int p2), some (.int v2), some (.int v4), some (.int q5.1), some (.int q6.1), none, none, none, none] [.int (jv_b q15)] q6.2 := by
                refine gl_iload (x := q5.1) (pc' := 76) hE dL_areSetsSo_74 rfl rfl ?_
                obtain ⟨q17, hq17, hq8⟩ := jv_lt_eq hq8
                have kq17 : gl_V gl_1 E 2 84 [some (.ref 0), some (.int p1), some (.int p2), some (.int v2), some (.int v4), some (.int q5.1), some (.int q6.1), none, none, none, none] [.int (jv_b q17), .int (jv_b q15)] q6.2 := by
                  refine gl_icmp_ne (x := (jv_b q15)) (y := (jv_b q17)) (tgt := 99) (pc' := 87) hE dL_areSetsSo_84 (by decide) rfl (fun c18 => ?_) (fun c18 => ?_)
                  · rw [if_neg c18] at hq8
                    refine gl_iconst (v := (0 : Int32)) (pc' := 100) hE dL_areSetsSo_99 rfl (by decide) ?_
                    cases hq8
                    exact gl_fg [true, true, true, true, true, true, true, true, true, true, true] (by omega) kq8
                  · rw [if_pos c18] at hq8
                    refine gl_iload_n (x := v2) (pc' := 88) hE dL_areSetsSo_87 rfl 3 rfl rfl ?_
                    refine gl_aload_n (x := 0) (pc' := 89) hE dL_areSetsSo_88 rfl 0 rfl rfl ?_
                    refine gl_callV (k1 := 0) (o := some (.int (f_X7_usableEdges q6.2))) (As := []) (As1 := []) (gg := (fun G => G)) (pc' := 92) hE (fun _ => gl_s1) dL_areSetsSo_89 rfl lV_L_122 (ok_X7_usableEdges rfl) (fun _ => rfl) (fun _ => rfl) (fun _ => rfl) (fun _ => rfl) rfl rfl rfl (by decide) rfl (Nat.le_of_ble_eq_true rfl) (by omega) ?_
                    show gl_V gl_1 E 2 92 [some (.ref 0), some (.int p1), some (.int p2), some (.int v2), some (.int v4), some (.int q5.1), some (.int q6.1), none, none, none, none] [.int (f_X7_usableEdges q6.2), .int v2] q6.2
                    refine gl_icmp_gt (x := v2) (y := (f_X7_usableEdges q6.2)) (tgt := 99) (pc' := 95) hE dL_areSetsSo_92 (by decide) rfl (fun c19 => ?_) (fun c19 => ?_)
                    · rw [if_pos c19] at hq8
                      refine gl_iconst (v := (0 : Int32)) (pc' := 100) hE dL_areSetsSo_99 rfl (by decide) ?_
                      cases hq8
                      exact gl_fg [true, true, true, true, true, true, true, true, true, true, true] (by omega) kq8
                    · rw [if_neg c19] at hq8
                      refine gl_iconst (v := (1 : Int32)) (pc' := 96) hE dL_areSetsSo_95 rfl (by decide) ?_
                      refine gl_goto (tgt := 100) hE dL_areSetsSo_96 (by decide) ?_
                      cases hq8
                      exact gl_fg [true, true, true, true, true, true, true, true, true, true, true] (by omega) kq8
                refine gl_if_lt (x := q5.1) (tgt := 83) (pc' := 79) hE dL_areSetsSo_76 (by decide) rfl (fun c16 => ?_) (fun c16 => ?_)
                · rw [if_pos c16] at hq17
                  refine gl_iconst (v := (0 : Int32)) (pc' := 84) hE dL_areSetsSo_83 rfl (by decide) ?_
                  cases hq17
                  exact gl_fg [true, true, true, true, true, true, true, true, true, true, true] (by omega) kq17
                · rw [if_neg c16] at hq17
                  refine gl_iconst (v := (1 : Int32)) (pc' := 80) hE dL_areSetsSo_79 rfl (by decide) ?_
                  refine gl_goto (tgt := 84) hE dL_areSetsSo_80 (by decide) ?_
                  cases hq17
                  exact gl_fg [true, true, true, true, true, true, true, true, true, true, true] (by omega) kq17
              refine gl_if_le (x := v2) (tgt := 73) (pc' := 69) hE dL_areSetsSo_66 (by decide) rfl (fun c14 => ?_) (fun c14 => ?_)
              · rw [if_pos c14] at hq15
                refine gl_iconst (v := (0 : Int32)) (pc' := 74) hE dL_areSetsSo_73 rfl (by decide) ?_
                cases hq15
                exact gl_fg [true, true, true, true, true, true, true, true, true, true, true] (by omega) kq15
              · rw [if_neg c14] at hq15
                refine gl_iconst (v := (1 : Int32)) (pc' := 70) hE dL_areSetsSo_69 rfl (by decide) ?_
                refine gl_goto (tgt := 74) hE dL_areSetsSo_70 (by decide) ?_
                cases hq15
                exact gl_fg [true, true, true, true, true, true, true, true, true, true, true] (by omega) kq15
          refine gl_if_le (x := v2) (tgt := 61) (pc' := 57) hE dL_areSetsSo_54 (by decide) rfl (fun c11 => ?_) (fun c11 => ?_)
          · rw [if_pos c11] at hq12
            refine gl_iconst (v := (0 : Int32)) (pc' := 62) hE dL_areSetsSo_61 rfl (by decide) ?_
            cases hq12
            exact gl_fg [true, true, true, true, true, true, true, true, true, true, true] (by omega) kq12
          · rw [if_neg c11] at hq12
            refine gl_iconst (v := (1 : Int32)) (pc' := 58) hE dL_areSetsSo_57 rfl (by decide) ?_
            refine gl_goto (tgt := 62) hE dL_areSetsSo_58 (by decide) ?_
            cases hq12
            exact gl_fg [true, true, true, true, true, true, true, true, true, true, true] (by omega) kq12
        refine gl_if_le (x := v4) (tgt := 52) (pc' := 48) hE dL_areSetsSo_45 (by decide) rfl (fun c9 => ?_) (fun c9 => ?_)
        · rw [if_pos c9] at hq10
          refine gl_iconst (v := (0 : Int32)) (pc' := 53) hE dL_areSetsSo_52 rfl (by decide) ?_
          cases hq10
          exact gl_fg [true, true, true, true, true, true, true, true, true, true, true] (by omega) kq10
        · rw [if_neg c9] at hq10
          refine gl_iconst (v := (1 : Int32)) (pc' := 49) hE dL_areSetsSo_48 rfl (by decide) ?_
          refine gl_goto (tgt := 53) hE dL_areSetsSo_49 (by decide) ?_
          cases hq10
          exact gl_fg [true, true, true, true, true, true, true, true, true, true, true] (by omega) kq10
