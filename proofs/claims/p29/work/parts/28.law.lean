noncomputable def f_L_law_lp69 (Nn : Nat) (xs : Nat → Int32) : Nat → Bool → Int32 → (jv_S × jv_S) → Option (Bool × Int32 × jv_S × jv_S)
  | 0, _, _, _ => none
  | n + 1, v3, v4, τ => if (72 : Int32) ≤ v4 then (some (v3, v4, τ)) else (if v3 = true then (jv_bd (f_L_cell Nn xs v4) (fun q12 => jv_bd (f_L_act τ.1 q12) (fun q13 => jv_bd (if q13.1 < 0 then (if (v4 - v4 / (3 : Int32) * (3 : Int32)) = (2 : Int32) then (jv_bd (f_L_areAlike (q13.2, τ.2) (q12 >>> ((4 : Int32) &&& 31))) (fun q17 => if q17.1 = true then (some (true, q17.2)) else (some (false, q17.2)))) else (some (true, (q13.2, τ.2)))) else (jv_bd (f_L_act τ.2 q12) (fun q19 => if q19.1 = q13.1 then (if (v4 - v4 / (3 : Int32) * (3 : Int32)) = (2 : Int32) then (jv_bd (f_L_areAlike (q13.2, q19.2) (q12 >>> ((4 : Int32) &&& 31))) (fun q22 => if q22.1 = true then (some (true, q22.2)) else (some (false, q22.2)))) else (some (true, (q13.2, q19.2)))) else (some (false, (q13.2, q19.2)))))) (fun q15 => jv_bd (f_L_low (q12 >>> ((7 : Int32) &&& 31)) (f_X7_nodes q15.2.1)) (fun q24 => jv_bd (f_L_low (q12 >>> ((2 : Int32) &&& 31)) ((f_X7_nodes q15.2.1) - (1 : Int32))) (fun q25 => if (f_X7_nodes q15.2.1) = 0 then none else (jv_bd (if (v4 - v4 / (6 : Int32) * (6 : Int32)) = (1 : Int32) then (jv_bd (if q15.1 = true then (jv_bd (f_L_arePathsSo q15.2.1 q24 (((q24 + (1 : Int32)) + q25) - ((q24 + (1 : Int32)) + q25) / (f_X7_nodes q15.2.1) * (f_X7_nodes q15.2.1))) (fun q31 => if q31.1 = true then (jv_bd (f_L_arePathsSo q15.2.2 q24 (((q24 + (1 : Int32)) + q25) - ((q24 + (1 : Int32)) + q25) / (f_X7_nodes q15.2.1) * (f_X7_nodes q15.2.1))) (fun q33 => if q33.1 = true then (some (true, (q31.2, q33.2))) else (some (false, (q31.2, q33.2))))) else (some (false, (q31.2, q15.2.2))))) else (some (false, q15.2))) (fun q30 => some (q30.1, q30.2))) else (some (q15.1, q15.2))) (fun q28 => jv_bd (if (v4 - v4 / (6 : Int32) * (6 : Int32)) = (4 : Int32) then (jv_bd (if q28.1 = true then (jv_lt (if (q12 &&& (8 : Int32)) = 0 then (q24) else ((((q24 + (1 : Int32)) + q25) - ((q24 + (1 : Int32)) + q25) / (f_X7_nodes q15.2.1) * (f_X7_nodes q15.2.1)))) (fun q40 => jv_bd (f_L_areWalksSo q28.2.1 q24 q40) (fun q41 => if q41.1 = true then (jv_lt (if (q12 &&& (8 : Int32)) = 0 then (q24) else ((((q24 + (1 : Int32)) + q25) - ((q24 + (1 : Int32)) + q25) / (f_X7_nodes q15.2.1) * (f_X7_nodes q15.2.1)))) (fun q44 => jv_bd (f_L_areWalksSo q28.2.2 q24 q44) (fun q45 => if q45.1 = true then (jv_bd (f_L_areSetsSo q41.2 q24 (((q24 + (1 : Int32)) + q25) - ((q24 + (1 : Int32)) + q25) / (f_X7_nodes q15.2.1) * (f_X7_nodes q15.2.1))) (fun q47 => if q47.1 = true then (some (true, (q47.2, q45.2))) else (some (false, (q47.2, q45.2))))) else (some (false, (q41.2, q45.2)))))) else (some (false, (q41.2, q28.2.2)))))) else (some (false, q28.2))) (fun q38 => some (q38.1, q38.2))) else (some (q28.1, q28.2))) (fun q36 => f_L_law_lp69 Nn xs n q36.1 (v4 + (1 : Int32)) q36.2))))))))) else (some (v3, v4, τ)))
noncomputable def f_L_law (Nn : Nat) (xs : Nat → Int32) (τ : jv_S × jv_S) : Option (Bool × jv_S × jv_S) := jv_bd (f_L_cell Nn xs (0 : Int32)) (fun q1 => jv_bd (f_L_low q1 (6 : Int32)) (fun q2 => jv_bd (f_L_starts τ.1 (0 : Int32) ((3 : Int32) + q2) (0 : Int32)) (fun q3 => jv_bd (if q3.1 = (1 : Int32) then (jv_bd (f_L_cell Nn xs (0 : Int32)) (fun q6 => jv_bd (f_L_low q6 (6 : Int32)) (fun q7 => jv_bd (f_L_starts τ.2 (0 : Int32) ((3 : Int32) + q7) (0 : Int32)) (fun q8 => if q8.1 = (1 : Int32) then (some (true, (q3.2, q8.2))) else (some (false, (q3.2, q8.2))))))) else (some (false, (q3.2, τ.2)))) (fun q5 => jv_bd (f_L_law_lp69 Nn xs 72 q5.1 (1 : Int32) q5.2) (fun q49 => jv_bd (if q49.1 = true then (jv_bd (f_L_areAlike q49.2.2 (77 : Int32)) (fun q52 => if q52.1 = true then (some (true, q52.2)) else (some (false, q52.2)))) else (some (false, q49.2.2))) (fun q51 => some (q51.1, q51.2)))))))
set_option maxRecDepth 100000 in
set_option maxHeartbeats 4000000 in
theorem lp_L_law_69 {Nn : Nat} {xs : Nat → Int32} {E : jv_E} {NN V : Nat} (hl0 : (jv_l E).stackTraces = false) (hE : gl_C (gl_3 Nn xs) E RL cL_law 9 22 NN) : ∀ (n : Nat) (v3 : Bool) (v4 : Int32) (τ : jv_S × jv_S) (r : Bool × Int32 × jv_S × jv_S), f_L_law_lp69 Nn xs n v3 v4 τ = some r → ∀ u : Nat, u + 155 * n ≤ V → V ≤ NN → (∀ q, r = q → gl_V (gl_3 Nn xs) E V 302 [none, some (.ref 0), some (.ref 35), some (.int (jv_b q.1)), none, none, none, none, none] [] q.2.2) → gl_V (gl_3 Nn xs) E u 69 [some (.ref 70), some (.ref 0), some (.ref 35), some (.int (jv_b v3)), some (.int v4), none, none, none, none] [] τ := by
  intro n
  induction n with
  | zero =>
    intro v3 v4 τ r h
    rw [f_L_law_lp69] at h
    cases h
  | succ n ih =>
    intro v3 v4 τ r h u hu hV hk
    rw [f_L_law_lp69] at h
    refine gl_iload (x := v4) (pc' := 71) hE dL_law_69 rfl rfl ?_
    refine gl_bipush (v := (72 : Int32)) (pc' := 73) hE dL_law_71 rfl (by decide) ?_
    refine gl_icmp_ge (x := v4) (y := (72 : Int32)) (tgt := 302) (pc' := 76) hE dL_law_73 (by decide) rfl (fun c10 => ?_) (fun c10 => ?_)
    · rw [if_pos c10] at h
      cases h
      exact gl_fg [false, true, true, true, false, true, true, true, true] (by omega) (hk (v3, v4, τ) rfl)
    · rw [if_neg c10] at h
      refine gl_iload_n (x := (jv_b v3)) (pc' := 77) hE dL_law_76 rfl 3 rfl rfl ?_
      refine gl_if_eq (x := (jv_b v3)) (tgt := 302) (pc' := 80) hE dL_law_77 (by decide) rfl (fun c11 => ?_) (fun c11 => ?_)
      · have c11 := jv_b0 c11
        rw [if_neg c11] at h
        cases h
        exact gl_fg [false, true, true, true, false, true, true, true, true] (by omega) (hk (v3, v4, τ) rfl)
      · have c11 := jv_b1 c11
        rw [if_pos c11] at h
        refine gl_aload_n (x := 70) (pc' := 81) hE dL_law_80 rfl 0 rfl rfl ?_
        refine gl_iload (x := v4) (pc' := 83) hE dL_law_81 rfl rfl ?_
        obtain ⟨q12, hq12, h⟩ := jv_bd_some h
        refine gl_callL (As := [.ref 70, .int v4]) (As1 := [.ref 70, .int v4]) (gg := (fun G => G)) (pc' := 86) hE (fun _ => gl_tc) gl_bc dL_law_83 rfl lS_L_138 (ok_L_cell hq12) (fun _ => rfl) rfl (by decide) rfl (Nat.le_of_ble_eq_true rfl) (by omega) ?_
        show gl_V (gl_3 Nn xs) E u 86 [some (.ref 70), some (.ref 0), some (.ref 35), some (.int (jv_b v3)), some (.int v4), none, none, none, none] [.int q12] τ
        refine gl_istore (x := q12) (L' := [some (.ref 70), some (.ref 0), some (.ref 35), some (.int (jv_b v3)), some (.int v4), some (.int q12), none, none, none]) (pc' := 88) hE dL_law_86 rfl (by decide) rfl rfl ?_
        refine gl_aload_n (x := 0) (pc' := 89) hE dL_law_88 rfl 1 rfl rfl ?_
        refine gl_iload (x := q12) (pc' := 91) hE dL_law_89 rfl rfl ?_
        obtain ⟨q13, hq13, h⟩ := jv_bd_some h
        refine gl_callL (As := [.ref 0, .int q12]) (As1 := [.ref 0, .int q12]) (gg := (fun G => G)) (pc' := 94) (v := q13.1) hE (fun _ => gl_tL) gl_b1 dL_law_91 rfl lS_L_142 (ok_L_act hl0 hq13) (fun _ => rfl) rfl (by decide) rfl (Nat.le_of_ble_eq_true rfl) (by omega) ?_
        show gl_V (gl_3 Nn xs) E (u + 1) 94 [some (.ref 70), some (.ref 0), some (.ref 35), some (.int (jv_b v3)), some (.int v4), some (.int q12), none, none, none] [.int q13.1] (q13.2, τ.2)
        refine gl_istore (x := q13.1) (L' := [some (.ref 70), some (.ref 0), some (.ref 35), some (.int (jv_b v3)), some (.int v4), some (.int q12), some (.int q13.1), none, none]) (pc' := 96) hE dL_law_94 rfl (by decide) rfl rfl ?_
        refine gl_iload (x := q13.1) (pc' := 98) hE dL_law_96 rfl rfl ?_
        obtain ⟨q15, hq15, h⟩ := jv_bd_some h
        have kq15 : gl_V (gl_3 Nn xs) E (u + 32) 137 [some (.ref 70), some (.ref 0), some (.ref 35), none, some (.int v4), some (.int q12), none, none, none] [.int (jv_b q15.1)] q15.2 := by
          refine gl_istore_n (x := (jv_b q15.1)) (L' := [some (.ref 70), some (.ref 0), some (.ref 35), some (.int (jv_b q15.1)), some (.int v4), some (.int q12), none, none, none]) (pc' := 138) hE dL_law_137 rfl 3 rfl (by decide) rfl rfl ?_
          refine gl_iload (x := q12) (pc' := 140) hE dL_law_138 rfl rfl ?_
          refine gl_bipush (v := (7 : Int32)) (pc' := 142) hE dL_law_140 rfl (by decide) ?_
          refine gl_ishr (x := q12) (y := (7 : Int32)) (pc' := 143) hE dL_law_142 rfl ?_
          refine gl_aload_n (x := 0) (pc' := 144) hE dL_law_143 rfl 1 rfl rfl ?_
          refine gl_callV (k1 := 0) (o := some (.int (f_X7_nodes q15.2.1))) (As := []) (As1 := []) (gg := (fun G => G)) (pc' := 147) hE (fun _ => gl_tL) dL_law_144 rfl lV_L_103 (ok_X7_nodes rfl) (fun _ => rfl) (fun _ => rfl) (fun _ => rfl) (fun _ => rfl) rfl rfl rfl (by decide) rfl (Nat.le_of_ble_eq_true rfl) (by omega) ?_
          show gl_V (gl_3 Nn xs) E (u + 32) 147 [some (.ref 70), some (.ref 0), some (.ref 35), some (.int (jv_b q15.1)), some (.int v4), some (.int q12), none, none, none] [.int (f_X7_nodes q15.2.1), .int (q12 >>> ((7 : Int32) &&& 31))] q15.2
          obtain ⟨q24, hq24, h⟩ := jv_bd_some h
          refine gl_callS1 (o := some (.int q24)) (As := [.int (q12 >>> ((7 : Int32) &&& 31)), .int (f_X7_nodes q15.2.1)]) (As1 := [.int (q12 >>> ((7 : Int32) &&& 31)), .int (f_X7_nodes q15.2.1)]) (gg := (fun G => G)) (pc' := 150) hE (fun _ => gl_tL) dL_law_147 rfl lS_L_100 (ok_L_low hq24) (fun _ => rfl) (fun _ => rfl) rfl (by decide) rfl (Nat.le_of_ble_eq_true rfl) (by omega) ?_
          show gl_V (gl_3 Nn xs) E (u + 32) 150 [some (.ref 70), some (.ref 0), some (.ref 35), some (.int (jv_b q15.1)), some (.int v4), some (.int q12), none, none, none] [.int q24] q15.2
          refine gl_istore (x := q24) (L' := [some (.ref 70), some (.ref 0), some (.ref 35), some (.int (jv_b q15.1)), some (.int v4), some (.int q12), none, some (.int q24), none]) (pc' := 152) hE dL_law_150 rfl (by decide) rfl rfl ?_
          refine gl_iload (x := q24) (pc' := 154) hE dL_law_152 rfl rfl ?_
          refine gl_iconst (v := (1 : Int32)) (pc' := 155) hE dL_law_154 rfl (by decide) ?_
          refine gl_iadd (x := q24) (y := (1 : Int32)) (pc' := 156) hE dL_law_155 rfl ?_
          refine gl_iload (x := q12) (pc' := 158) hE dL_law_156 rfl rfl ?_
          refine gl_iconst (v := (2 : Int32)) (pc' := 159) hE dL_law_158 rfl (by decide) ?_
          refine gl_ishr (x := q12) (y := (2 : Int32)) (pc' := 160) hE dL_law_159 rfl ?_
          refine gl_aload_n (x := 0) (pc' := 161) hE dL_law_160 rfl 1 rfl rfl ?_
          refine gl_callV (k1 := 0) (o := some (.int (f_X7_nodes q15.2.1))) (As := []) (As1 := []) (gg := (fun G => G)) (pc' := 164) hE (fun _ => gl_tL) dL_law_161 rfl lV_L_103 (ok_X7_nodes rfl) (fun _ => rfl) (fun _ => rfl) (fun _ => rfl) (fun _ => rfl) rfl rfl rfl (by decide) rfl (Nat.le_of_ble_eq_true rfl) (by omega) ?_
          show gl_V (gl_3 Nn xs) E (u + 32) 164 [some (.ref 70), some (.ref 0), some (.ref 35), some (.int (jv_b q15.1)), some (.int v4), some (.int q12), none, some (.int q24), none] [.int (f_X7_nodes q15.2.1), .int (q12 >>> ((2 : Int32) &&& 31)), .int (q24 + (1 : Int32))] q15.2
          refine gl_iconst (v := (1 : Int32)) (pc' := 165) hE dL_law_164 rfl (by decide) ?_
          refine gl_isub (x := (f_X7_nodes q15.2.1)) (y := (1 : Int32)) (pc' := 166) hE dL_law_165 rfl ?_
          obtain ⟨q25, hq25, h⟩ := jv_bd_some h
          refine gl_callS1 (o := some (.int q25)) (As := [.int (q12 >>> ((2 : Int32) &&& 31)), .int ((f_X7_nodes q15.2.1) - (1 : Int32))]) (As1 := [.int (q12 >>> ((2 : Int32) &&& 31)), .int ((f_X7_nodes q15.2.1) - (1 : Int32))]) (gg := (fun G => G)) (pc' := 169) hE (fun _ => gl_tL) dL_law_166 rfl lS_L_100 (ok_L_low hq25) (fun _ => rfl) (fun _ => rfl) rfl (by decide) rfl (Nat.le_of_ble_eq_true rfl) (by omega) ?_
          show gl_V (gl_3 Nn xs) E (u + 32) 169 [some (.ref 70), some (.ref 0), some (.ref 35), some (.int (jv_b q15.1)), some (.int v4), some (.int q12), none, some (.int q24), none] [.int q25, .int (q24 + (1 : Int32))] q15.2
          refine gl_iadd (x := (q24 + (1 : Int32))) (y := q25) (pc' := 170) hE dL_law_169 rfl ?_
          refine gl_aload_n (x := 0) (pc' := 171) hE dL_law_170 rfl 1 rfl rfl ?_
          refine gl_callV (k1 := 0) (o := some (.int (f_X7_nodes q15.2.1))) (As := []) (As1 := []) (gg := (fun G => G)) (pc' := 174) hE (fun _ => gl_tL) dL_law_171 rfl lV_L_103 (ok_X7_nodes rfl) (fun _ => rfl) (fun _ => rfl) (fun _ => rfl) (fun _ => rfl) rfl rfl rfl (by decide) rfl (Nat.le_of_ble_eq_true rfl) (by omega) ?_
          show gl_V (gl_3 Nn xs) E (u + 32) 174 [some (.ref 70), some (.ref 0), some (.ref 35), some (.int (jv_b q15.1)), some (.int v4), some (.int q12), none, some (.int q24), none] [.int (f_X7_nodes q15.2.1), .int ((q24 + (1 : Int32)) + q25)] q15.2
          by_cases c26 : (f_X7_nodes q15.2.1) = 0
          · rw [if_pos c26] at h; cases h
          · rw [if_neg c26] at h
            refine gl_irem (x := ((q24 + (1 : Int32)) + q25)) (y := (f_X7_nodes q15.2.1)) (pc' := 175) hE dL_law_174 rfl c26 ?_
            refine gl_istore (x := (((q24 + (1 : Int32)) + q25) - ((q24 + (1 : Int32)) + q25) / (f_X7_nodes q15.2.1) * (f_X7_nodes q15.2.1))) (L' := [some (.ref 70), some (.ref 0), some (.ref 35), some (.int (jv_b q15.1)), some (.int v4), some (.int q12), none, some (.int q24), some (.int (((q24 + (1 : Int32)) + q25) - ((q24 + (1 : Int32)) + q25) / (f_X7_nodes q15.2.1) * (f_X7_nodes q15.2.1)))]) (pc' := 177) hE dL_law_175 rfl (by decide) rfl rfl ?_
            refine gl_iload (x := v4) (pc' := 179) hE dL_law_177 rfl rfl ?_
            refine gl_bipush (v := (6 : Int32)) (pc' := 181) hE dL_law_179 rfl (by decide) ?_
            refine gl_irem (x := v4) (y := (6 : Int32)) (pc' := 182) hE dL_law_181 rfl (by decide) ?_
            refine gl_iconst (v := (1 : Int32)) (pc' := 183) hE dL_law_182 rfl (by decide) ?_
            obtain ⟨q28, hq28, h⟩ := jv_bd_some h
            have kq28 : gl_V (gl_3 Nn xs) E (u + 86) 218 [some (.ref 70), some (.ref 0), some (.ref 35), some (.int (jv_b q28.1)), some (.int v4), some (.int q12), none, some (.int q24), some (.int (((q24 + (1 : Int32)) + q25) - ((q24 + (1 : Int32)) + q25) / (f_X7_nodes q15.2.1) * (f_X7_nodes q15.2.1)))] [] q28.2 := by
              refine gl_iload (x := v4) (pc' := 220) hE dL_law_218 rfl rfl ?_
              refine gl_bipush (v := (6 : Int32)) (pc' := 222) hE dL_law_220 rfl (by decide) ?_
              refine gl_irem (x := v4) (y := (6 : Int32)) (pc' := 223) hE dL_law_222 rfl (by decide) ?_
              refine gl_iconst (v := (4 : Int32)) (pc' := 224) hE dL_law_223 rfl (by decide) ?_
              obtain ⟨q36, hq36, h⟩ := jv_bd_some h
              have kq36 : gl_V (gl_3 Nn xs) E (u + 155) 296 [some (.ref 70), some (.ref 0), some (.ref 35), some (.int (jv_b q36.1)), some (.int v4), none, none, none, none] [] q36.2 := by
                refine gl_iinc (x := v4) (v := (v4 + (1 : Int32))) (L' := [some (.ref 70), some (.ref 0), some (.ref 35), some (.int (jv_b q36.1)), some (.int (v4 + (1 : Int32))), none, none, none, none]) (pc' := 299) hE dL_law_296 rfl rfl rfl (by decide) rfl rfl ?_
                refine gl_goto (tgt := 69) hE dL_law_299 (by decide) ?_
                exact gl_fg [true, true, true, true, true, true, true, true, true] (Nat.le_refl _) (ih q36.1 (v4 + (1 : Int32)) q36.2 _ h _ (by omega) hV hk)
              refine gl_icmp_ne (x := (v4 - v4 / (6 : Int32) * (6 : Int32))) (y := (4 : Int32)) (tgt := 296) (pc' := 227) hE dL_law_224 (by decide) rfl (fun c35 => ?_) (fun c35 => ?_)
              · rw [if_neg c35] at hq36
                cases hq36
                exact gl_fg [true, true, true, true, true, false, true, false, false] (by omega) kq36
              · rw [if_pos c35] at hq36
                refine gl_iload_n (x := (jv_b q28.1)) (pc' := 228) hE dL_law_227 rfl 3 rfl rfl ?_
                obtain ⟨q38, hq38, hq36⟩ := jv_bd_some hq36
                have kq38 : gl_V (gl_3 Nn xs) E (u + 155) 295 [some (.ref 70), some (.ref 0), some (.ref 35), none, some (.int v4), none, none, none, none] [.int (jv_b q38.1)] q38.2 := by
                  refine gl_istore_n (x := (jv_b q38.1)) (L' := [some (.ref 70), some (.ref 0), some (.ref 35), some (.int (jv_b q38.1)), some (.int v4), none, none, none, none]) (pc' := 296) hE dL_law_295 rfl 3 rfl (by decide) rfl rfl ?_
                  cases hq36
                  exact gl_fg [true, true, true, true, true, true, true, true, true] (by omega) kq36
                refine gl_if_eq (x := (jv_b q28.1)) (tgt := 294) (pc' := 231) hE dL_law_228 (by decide) rfl (fun c37 => ?_) (fun c37 => ?_)
                · have c37 := jv_b0 c37
                  rw [if_neg c37] at hq38
                  refine gl_iconst (v := (0 : Int32)) (pc' := 295) hE dL_law_294 rfl (by decide) ?_
                  cases hq38
                  exact gl_fg [true, true, true, false, true, false, true, false, false] (by omega) kq38
                · have c37 := jv_b1 c37
                  rw [if_pos c37] at hq38
                  refine gl_aload_n (x := 0) (pc' := 232) hE dL_law_231 rfl 1 rfl rfl ?_
                  refine gl_iload (x := q24) (pc' := 234) hE dL_law_232 rfl rfl ?_
                  refine gl_iload (x := q12) (pc' := 236) hE dL_law_234 rfl rfl ?_
                  refine gl_bipush (v := (8 : Int32)) (pc' := 238) hE dL_law_236 rfl (by decide) ?_
                  refine gl_iand (x := q12) (y := (8 : Int32)) (pc' := 239) hE dL_law_238 rfl ?_
                  obtain ⟨q40, hq40, hq38⟩ := jv_lt_eq hq38
                  have kq40 : gl_V (gl_3 Nn xs) E (u + 86) 249 [some (.ref 70), some (.ref 0), some (.ref 35), none, some (.int v4), some (.int q12), none, some (.int q24), some (.int (((q24 + (1 : Int32)) + q25) - ((q24 + (1 : Int32)) + q25) / (f_X7_nodes q15.2.1) * (f_X7_nodes q15.2.1)))] [.int q40, .int q24, .ref 0] q28.2 := by
                    obtain ⟨q41, hq41, hq38⟩ := jv_bd_some hq38
                    refine gl_callL (As := [.ref 0, .int q24, .int q40]) (As1 := [.ref 0, .int q24, .int q40]) (gg := (fun G => G)) (pc' := 252) (v := (jv_b q41.1)) hE (fun _ => gl_tL) gl_b1 dL_law_249 rfl lS_L_153 (ok_L_areWalksSo hl0 hq41) (fun _ => rfl) rfl (by decide) rfl (Nat.le_of_ble_eq_true rfl) (by omega) ?_
                    show gl_V (gl_3 Nn xs) E (u + 114) 252 [some (.ref 70), some (.ref 0), some (.ref 35), none, some (.int v4), some (.int q12), none, some (.int q24), some (.int (((q24 + (1 : Int32)) + q25) - ((q24 + (1 : Int32)) + q25) / (f_X7_nodes q15.2.1) * (f_X7_nodes q15.2.1)))] [.int (jv_b q41.1)] (q41.2, q28.2.2)
                    refine gl_if_eq (x := (jv_b q41.1)) (tgt := 294) (pc' := 255) hE dL_law_252 (by decide) rfl (fun c42 => ?_) (fun c42 => ?_)
                    · have c42 := jv_b0 c42
                      rw [if_neg c42] at hq38
                      refine gl_iconst (v := (0 : Int32)) (pc' := 295) hE dL_law_294 rfl (by decide) ?_
                      cases hq38
                      exact gl_fg [true, true, true, true, true, false, true, false, false] (by omega) kq38
                    · have c42 := jv_b1 c42
                      rw [if_pos c42] at hq38
                      refine gl_aload_n (x := 35) (pc' := 256) hE dL_law_255 rfl 2 rfl rfl ?_
                      refine gl_iload (x := q24) (pc' := 258) hE dL_law_256 rfl rfl ?_
                      refine gl_iload (x := q12) (pc' := 260) hE dL_law_258 rfl rfl ?_
                      refine gl_bipush (v := (8 : Int32)) (pc' := 262) hE dL_law_260 rfl (by decide) ?_
                      refine gl_iand (x := q12) (y := (8 : Int32)) (pc' := 263) hE dL_law_262 rfl ?_
                      obtain ⟨q44, hq44, hq38⟩ := jv_lt_eq hq38
                      have kq44 : gl_V (gl_3 Nn xs) E (u + 114) 273 [some (.ref 70), some (.ref 0), some (.ref 35), none, some (.int v4), none, none, some (.int q24), some (.int (((q24 + (1 : Int32)) + q25) - ((q24 + (1 : Int32)) + q25) / (f_X7_nodes q15.2.1) * (f_X7_nodes q15.2.1)))] [.int q44, .int q24, .ref 35] (q41.2, q28.2.2) := by
                        obtain ⟨q45, hq45, hq38⟩ := jv_bd_some hq38
                        refine gl_callL (As := [.ref 35, .int q24, .int q44]) (As1 := [.ref 0, .int q24, .int q44]) (gg := jv_rt) (pc' := 276) (v := (jv_b q45.1)) hE (fun _ => gl_tR) gl_b1 dL_law_273 rfl lS_L_153 (ok_L_areWalksSo hl0 hq45) (fun _ => rfl) rfl (by decide) rfl (Nat.le_of_ble_eq_true rfl) (by omega) ?_
                        show gl_V (gl_3 Nn xs) E (u + 142) 276 [some (.ref 70), some (.ref 0), some (.ref 35), none, some (.int v4), none, none, some (.int q24), some (.int (((q24 + (1 : Int32)) + q25) - ((q24 + (1 : Int32)) + q25) / (f_X7_nodes q15.2.1) * (f_X7_nodes q15.2.1)))] [.int (jv_b q45.1)] (q41.2, q45.2)
                        refine gl_if_eq (x := (jv_b q45.1)) (tgt := 294) (pc' := 279) hE dL_law_276 (by decide) rfl (fun c46 => ?_) (fun c46 => ?_)
                        · have c46 := jv_b0 c46
                          rw [if_neg c46] at hq38
                          refine gl_iconst (v := (0 : Int32)) (pc' := 295) hE dL_law_294 rfl (by decide) ?_
                          cases hq38
                          exact gl_fg [true, true, true, true, true, true, true, false, false] (by omega) kq38
                        · have c46 := jv_b1 c46
                          rw [if_pos c46] at hq38
                          refine gl_aload_n (x := 0) (pc' := 280) hE dL_law_279 rfl 1 rfl rfl ?_
                          refine gl_iload (x := q24) (pc' := 282) hE dL_law_280 rfl rfl ?_
                          refine gl_iload (x := (((q24 + (1 : Int32)) + q25) - ((q24 + (1 : Int32)) + q25) / (f_X7_nodes q15.2.1) * (f_X7_nodes q15.2.1))) (pc' := 284) hE dL_law_282 rfl rfl ?_
                          obtain ⟨q47, hq47, hq38⟩ := jv_bd_some hq38
                          refine gl_callL (As := [.ref 0, .int q24, .int (((q24 + (1 : Int32)) + q25) - ((q24 + (1 : Int32)) + q25) / (f_X7_nodes q15.2.1) * (f_X7_nodes q15.2.1))]) (As1 := [.ref 0, .int q24, .int (((q24 + (1 : Int32)) + q25) - ((q24 + (1 : Int32)) + q25) / (f_X7_nodes q15.2.1) * (f_X7_nodes q15.2.1))]) (gg := (fun G => G)) (pc' := 287) (v := (jv_b q47.1)) hE (fun _ => gl_tL) gl_b1 dL_law_284 rfl lS_L_156 (ok_L_areSetsSo hl0 hq47) (fun _ => rfl) rfl (by decide) rfl (Nat.le_of_ble_eq_true rfl) (by omega) ?_
                          show gl_V (gl_3 Nn xs) E (u + 155) 287 [some (.ref 70), some (.ref 0), some (.ref 35), none, some (.int v4), none, none, some (.int q24), some (.int (((q24 + (1 : Int32)) + q25) - ((q24 + (1 : Int32)) + q25) / (f_X7_nodes q15.2.1) * (f_X7_nodes q15.2.1)))] [.int (jv_b q47.1)] (q47.2, q45.2)
                          refine gl_if_eq (x := (jv_b q47.1)) (tgt := 294) (pc' := 290) hE dL_law_287 (by decide) rfl (fun c48 => ?_) (fun c48 => ?_)
                          · have c48 := jv_b0 c48
                            rw [if_neg c48] at hq38
                            refine gl_iconst (v := (0 : Int32)) (pc' := 295) hE dL_law_294 rfl (by decide) ?_
                            cases hq38
                            exact gl_fg [true, true, true, true, true, true, true, false, false] (by omega) kq38
                          · have c48 := jv_b1 c48
                            rw [if_pos c48] at hq38
                            refine gl_iconst (v := (1 : Int32)) (pc' := 291) hE dL_law_290 rfl (by decide) ?_
                            refine gl_goto (tgt := 295) hE dL_law_291 (by decide) ?_
                            cases hq38
                            exact gl_fg [true, true, true, true, true, true, true, false, false] (by omega) kq38
                      refine gl_if_ne (x := (q12 &&& (8 : Int32))) (tgt := 271) (pc' := 266) hE dL_law_263 (by decide) rfl (fun c43 => ?_) (fun c43 => ?_)
                      · rw [if_neg c43] at hq44
                        refine gl_iload (x := (((q24 + (1 : Int32)) + q25) - ((q24 + (1 : Int32)) + q25) / (f_X7_nodes q15.2.1) * (f_X7_nodes q15.2.1))) (pc' := 273) hE dL_law_271 rfl rfl ?_
                        cases hq44
                        exact gl_fg [true, true, true, true, true, false, true, true, true] (by omega) kq44
                      · rw [if_pos c43] at hq44
                        refine gl_iload (x := q24) (pc' := 268) hE dL_law_266 rfl rfl ?_
                        refine gl_goto (tgt := 273) hE dL_law_268 (by decide) ?_
                        cases hq44
                        exact gl_fg [true, true, true, true, true, false, true, true, true] (by omega) kq44
                  refine gl_if_ne (x := (q12 &&& (8 : Int32))) (tgt := 247) (pc' := 242) hE dL_law_239 (by decide) rfl (fun c39 => ?_) (fun c39 => ?_)
                  · rw [if_neg c39] at hq40
                    refine gl_iload (x := (((q24 + (1 : Int32)) + q25) - ((q24 + (1 : Int32)) + q25) / (f_X7_nodes q15.2.1) * (f_X7_nodes q15.2.1))) (pc' := 249) hE dL_law_247 rfl rfl ?_
                    cases hq40
                    exact gl_fg [true, true, true, false, true, true, true, true, true] (by omega) kq40
                  · rw [if_pos c39] at hq40
                    refine gl_iload (x := q24) (pc' := 244) hE dL_law_242 rfl rfl ?_
                    refine gl_goto (tgt := 249) hE dL_law_244 (by decide) ?_
                    cases hq40
                    exact gl_fg [true, true, true, false, true, true, true, true, true] (by omega) kq40
            refine gl_icmp_ne (x := (v4 - v4 / (6 : Int32) * (6 : Int32))) (y := (1 : Int32)) (tgt := 218) (pc' := 186) hE dL_law_183 (by decide) rfl (fun c27 => ?_) (fun c27 => ?_)
            · rw [if_neg c27] at hq28
              cases hq28
              exact gl_fg [true, true, true, true, true, true, true, true, true] (by omega) kq28
            · rw [if_pos c27] at hq28
              refine gl_iload_n (x := (jv_b q15.1)) (pc' := 187) hE dL_law_186 rfl 3 rfl rfl ?_
              obtain ⟨q30, hq30, hq28⟩ := jv_bd_some hq28
              have kq30 : gl_V (gl_3 Nn xs) E (u + 86) 217 [some (.ref 70), some (.ref 0), some (.ref 35), none, some (.int v4), some (.int q12), none, some (.int q24), some (.int (((q24 + (1 : Int32)) + q25) - ((q24 + (1 : Int32)) + q25) / (f_X7_nodes q15.2.1) * (f_X7_nodes q15.2.1)))] [.int (jv_b q30.1)] q30.2 := by
                refine gl_istore_n (x := (jv_b q30.1)) (L' := [some (.ref 70), some (.ref 0), some (.ref 35), some (.int (jv_b q30.1)), some (.int v4), some (.int q12), none, some (.int q24), some (.int (((q24 + (1 : Int32)) + q25) - ((q24 + (1 : Int32)) + q25) / (f_X7_nodes q15.2.1) * (f_X7_nodes q15.2.1)))]) (pc' := 218) hE dL_law_217 rfl 3 rfl (by decide) rfl rfl ?_
                cases hq28
                exact gl_fg [true, true, true, true, true, true, true, true, true] (by omega) kq28
              refine gl_if_eq (x := (jv_b q15.1)) (tgt := 216) (pc' := 190) hE dL_law_187 (by decide) rfl (fun c29 => ?_) (fun c29 => ?_)
              · have c29 := jv_b0 c29
                rw [if_neg c29] at hq30
                refine gl_iconst (v := (0 : Int32)) (pc' := 217) hE dL_law_216 rfl (by decide) ?_
                cases hq30
                exact gl_fg [true, true, true, false, true, true, true, true, true] (by omega) kq30
              · have c29 := jv_b1 c29
                rw [if_pos c29] at hq30
                refine gl_aload_n (x := 0) (pc' := 191) hE dL_law_190 rfl 1 rfl rfl ?_
                refine gl_iload (x := q24) (pc' := 193) hE dL_law_191 rfl rfl ?_
                refine gl_iload (x := (((q24 + (1 : Int32)) + q25) - ((q24 + (1 : Int32)) + q25) / (f_X7_nodes q15.2.1) * (f_X7_nodes q15.2.1))) (pc' := 195) hE dL_law_193 rfl rfl ?_
                obtain ⟨q31, hq31, hq30⟩ := jv_bd_some hq30
                refine gl_callL (As := [.ref 0, .int q24, .int (((q24 + (1 : Int32)) + q25) - ((q24 + (1 : Int32)) + q25) / (f_X7_nodes q15.2.1) * (f_X7_nodes q15.2.1))]) (As1 := [.ref 0, .int q24, .int (((q24 + (1 : Int32)) + q25) - ((q24 + (1 : Int32)) + q25) / (f_X7_nodes q15.2.1) * (f_X7_nodes q15.2.1))]) (gg := (fun G => G)) (pc' := 198) (v := (jv_b q31.1)) hE (fun _ => gl_tL) gl_b1 dL_law_195 rfl lS_L_149 (ok_L_arePathsSo hl0 hq31) (fun _ => rfl) rfl (by decide) rfl (Nat.le_of_ble_eq_true rfl) (by omega) ?_
                show gl_V (gl_3 Nn xs) E (u + 59) 198 [some (.ref 70), some (.ref 0), some (.ref 35), some (.int (jv_b q15.1)), some (.int v4), some (.int q12), none, some (.int q24), some (.int (((q24 + (1 : Int32)) + q25) - ((q24 + (1 : Int32)) + q25) / (f_X7_nodes q15.2.1) * (f_X7_nodes q15.2.1)))] [.int (jv_b q31.1)] (q31.2, q15.2.2)
                refine gl_if_eq (x := (jv_b q31.1)) (tgt := 216) (pc' := 201) hE dL_law_198 (by decide) rfl (fun c32 => ?_) (fun c32 => ?_)
                · have c32 := jv_b0 c32
                  rw [if_neg c32] at hq30
                  refine gl_iconst (v := (0 : Int32)) (pc' := 217) hE dL_law_216 rfl (by decide) ?_
                  cases hq30
                  exact gl_fg [true, true, true, false, true, true, true, true, true] (by omega) kq30
                · have c32 := jv_b1 c32
                  rw [if_pos c32] at hq30
                  refine gl_aload_n (x := 35) (pc' := 202) hE dL_law_201 rfl 2 rfl rfl ?_
                  refine gl_iload (x := q24) (pc' := 204) hE dL_law_202 rfl rfl ?_
                  refine gl_iload (x := (((q24 + (1 : Int32)) + q25) - ((q24 + (1 : Int32)) + q25) / (f_X7_nodes q15.2.1) * (f_X7_nodes q15.2.1))) (pc' := 206) hE dL_law_204 rfl rfl ?_
                  obtain ⟨q33, hq33, hq30⟩ := jv_bd_some hq30
                  refine gl_callL (As := [.ref 35, .int q24, .int (((q24 + (1 : Int32)) + q25) - ((q24 + (1 : Int32)) + q25) / (f_X7_nodes q15.2.1) * (f_X7_nodes q15.2.1))]) (As1 := [.ref 0, .int q24, .int (((q24 + (1 : Int32)) + q25) - ((q24 + (1 : Int32)) + q25) / (f_X7_nodes q15.2.1) * (f_X7_nodes q15.2.1))]) (gg := jv_rt) (pc' := 209) (v := (jv_b q33.1)) hE (fun _ => gl_tR) gl_b1 dL_law_206 rfl lS_L_149 (ok_L_arePathsSo hl0 hq33) (fun _ => rfl) rfl (by decide) rfl (Nat.le_of_ble_eq_true rfl) (by omega) ?_
                  show gl_V (gl_3 Nn xs) E (u + 86) 209 [some (.ref 70), some (.ref 0), some (.ref 35), some (.int (jv_b q15.1)), some (.int v4), some (.int q12), none, some (.int q24), some (.int (((q24 + (1 : Int32)) + q25) - ((q24 + (1 : Int32)) + q25) / (f_X7_nodes q15.2.1) * (f_X7_nodes q15.2.1)))] [.int (jv_b q33.1)] (q31.2, q33.2)
                  refine gl_if_eq (x := (jv_b q33.1)) (tgt := 216) (pc' := 212) hE dL_law_209 (by decide) rfl (fun c34 => ?_) (fun c34 => ?_)
                  · have c34 := jv_b0 c34
                    rw [if_neg c34] at hq30
                    refine gl_iconst (v := (0 : Int32)) (pc' := 217) hE dL_law_216 rfl (by decide) ?_
                    cases hq30
                    exact gl_fg [true, true, true, false, true, true, true, true, true] (by omega) kq30
                  · have c34 := jv_b1 c34
                    rw [if_pos c34] at hq30
                    refine gl_iconst (v := (1 : Int32)) (pc' := 213) hE dL_law_212 rfl (by decide) ?_
                    refine gl_goto (tgt := 217) hE dL_law_213 (by decide) ?_
                    cases hq30
                    exact gl_fg [true, true, true, false, true, true, true, true, true] (by omega) kq30
        refine gl_if_lt (x := q13.1) (tgt := 112) (pc' := 101) hE dL_law_98 (by decide) rfl (fun c14 => ?_) (fun c14 => ?_)
        · rw [if_pos c14] at hq15
          refine gl_iload (x := v4) (pc' := 114) hE dL_law_112 rfl rfl ?_
          refine gl_iconst (v := (3 : Int32)) (pc' := 115) hE dL_law_114 rfl (by decide) ?_
          refine gl_irem (x := v4) (y := (3 : Int32)) (pc' := 116) hE dL_law_115 rfl (by decide) ?_
          refine gl_iconst (v := (2 : Int32)) (pc' := 117) hE dL_law_116 rfl (by decide) ?_
          refine gl_icmp_ne (x := (v4 - v4 / (3 : Int32) * (3 : Int32))) (y := (2 : Int32)) (tgt := 132) (pc' := 120) hE dL_law_117 (by decide) rfl (fun c16 => ?_) (fun c16 => ?_)
          · rw [if_neg c16] at hq15
            refine gl_iconst (v := (1 : Int32)) (pc' := 133) hE dL_law_132 rfl (by decide) ?_
            refine gl_goto (tgt := 137) hE dL_law_133 (by decide) ?_
            cases hq15
            exact gl_fg [true, true, true, false, true, true, false, true, true] (by omega) kq15
          · rw [if_pos c16] at hq15
            refine gl_aload_n (x := 0) (pc' := 121) hE dL_law_120 rfl 1 rfl rfl ?_
            refine gl_aload_n (x := 35) (pc' := 122) hE dL_law_121 rfl 2 rfl rfl ?_
            refine gl_iload (x := q12) (pc' := 124) hE dL_law_122 rfl rfl ?_
            refine gl_iconst (v := (4 : Int32)) (pc' := 125) hE dL_law_124 rfl (by decide) ?_
            refine gl_ishr (x := q12) (y := (4 : Int32)) (pc' := 126) hE dL_law_125 rfl ?_
            obtain ⟨q17, hq17, hq15⟩ := jv_bd_some hq15
            refine gl_callL (As := [.ref 0, .ref 35, .int (q12 >>> ((4 : Int32) &&& 31))]) (As1 := [.ref 0, .ref 35, .int (q12 >>> ((4 : Int32) &&& 31))]) (gg := (fun G => G)) (pc' := 129) (v := (jv_b q17.1)) hE (fun _ => gl_t2) gl_b2 dL_law_126 rfl lS_L_145 (ok_L_areAlike hl0 hq17) (fun _ => rfl) rfl (by decide) rfl (Nat.le_of_ble_eq_true rfl) (by omega) ?_
            show gl_V (gl_3 Nn xs) E (u + 31) 129 [some (.ref 70), some (.ref 0), some (.ref 35), some (.int (jv_b v3)), some (.int v4), some (.int q12), some (.int q13.1), none, none] [.int (jv_b q17.1)] q17.2
            refine gl_if_eq (x := (jv_b q17.1)) (tgt := 136) (pc' := 132) hE dL_law_129 (by decide) rfl (fun c18 => ?_) (fun c18 => ?_)
            · have c18 := jv_b0 c18
              rw [if_neg c18] at hq15
              refine gl_iconst (v := (0 : Int32)) (pc' := 137) hE dL_law_136 rfl (by decide) ?_
              cases hq15
              exact gl_fg [true, true, true, false, true, true, false, true, true] (by omega) kq15
            · have c18 := jv_b1 c18
              rw [if_pos c18] at hq15
              refine gl_iconst (v := (1 : Int32)) (pc' := 133) hE dL_law_132 rfl (by decide) ?_
              refine gl_goto (tgt := 137) hE dL_law_133 (by decide) ?_
              cases hq15
              exact gl_fg [true, true, true, false, true, true, false, true, true] (by omega) kq15
        · rw [if_neg c14] at hq15
          refine gl_aload_n (x := 35) (pc' := 102) hE dL_law_101 rfl 2 rfl rfl ?_
          refine gl_iload (x := q12) (pc' := 104) hE dL_law_102 rfl rfl ?_
          obtain ⟨q19, hq19, hq15⟩ := jv_bd_some hq15
          refine gl_callL (As := [.ref 35, .int q12]) (As1 := [.ref 0, .int q12]) (gg := jv_rt) (pc' := 107) (v := q19.1) hE (fun _ => gl_tR) gl_b1 dL_law_104 rfl lS_L_142 (ok_L_act hl0 hq19) (fun _ => rfl) rfl (by decide) rfl (Nat.le_of_ble_eq_true rfl) (by omega) ?_
          show gl_V (gl_3 Nn xs) E (u + 2) 107 [some (.ref 70), some (.ref 0), some (.ref 35), some (.int (jv_b v3)), some (.int v4), some (.int q12), some (.int q13.1), none, none] [.int q19.1] (q13.2, q19.2)
          refine gl_iload (x := q13.1) (pc' := 109) hE dL_law_107 rfl rfl ?_
          refine gl_icmp_ne (x := q19.1) (y := q13.1) (tgt := 136) (pc' := 112) hE dL_law_109 (by decide) rfl (fun c20 => ?_) (fun c20 => ?_)
          · rw [if_neg c20] at hq15
            refine gl_iconst (v := (0 : Int32)) (pc' := 137) hE dL_law_136 rfl (by decide) ?_
            cases hq15
            exact gl_fg [true, true, true, false, true, true, false, true, true] (by omega) kq15
          · rw [if_pos c20] at hq15
            refine gl_iload (x := v4) (pc' := 114) hE dL_law_112 rfl rfl ?_
            refine gl_iconst (v := (3 : Int32)) (pc' := 115) hE dL_law_114 rfl (by decide) ?_
            refine gl_irem (x := v4) (y := (3 : Int32)) (pc' := 116) hE dL_law_115 rfl (by decide) ?_
            refine gl_iconst (v := (2 : Int32)) (pc' := 117) hE dL_law_116 rfl (by decide) ?_
            refine gl_icmp_ne (x := (v4 - v4 / (3 : Int32) * (3 : Int32))) (y := (2 : Int32)) (tgt := 132) (pc' := 120) hE dL_law_117 (by decide) rfl (fun c21 => ?_) (fun c21 => ?_)
            · rw [if_neg c21] at hq15
              refine gl_iconst (v := (1 : Int32)) (pc' := 133) hE dL_law_132 rfl (by decide) ?_
              refine gl_goto (tgt := 137) hE dL_law_133 (by decide) ?_
              cases hq15
              exact gl_fg [true, true, true, false, true, true, false, true, true] (by omega) kq15
            · rw [if_pos c21] at hq15
              refine gl_aload_n (x := 0) (pc' := 121) hE dL_law_120 rfl 1 rfl rfl ?_
              refine gl_aload_n (x := 35) (pc' := 122) hE dL_law_121 rfl 2 rfl rfl ?_
              refine gl_iload (x := q12) (pc' := 124) hE dL_law_122 rfl rfl ?_
              refine gl_iconst (v := (4 : Int32)) (pc' := 125) hE dL_law_124 rfl (by decide) ?_
              refine gl_ishr (x := q12) (y := (4 : Int32)) (pc' := 126) hE dL_law_125 rfl ?_
              obtain ⟨q22, hq22, hq15⟩ := jv_bd_some hq15
              refine gl_callL (As := [.ref 0, .ref 35, .int (q12 >>> ((4 : Int32) &&& 31))]) (As1 := [.ref 0, .ref 35, .int (q12 >>> ((4 : Int32) &&& 31))]) (gg := (fun G => G)) (pc' := 129) (v := (jv_b q22.1)) hE (fun _ => gl_t2) gl_b2 dL_law_126 rfl lS_L_145 (ok_L_areAlike hl0 hq22) (fun _ => rfl) rfl (by decide) rfl (Nat.le_of_ble_eq_true rfl) (by omega) ?_
              show gl_V (gl_3 Nn xs) E (u + 32) 129 [some (.ref 70), some (.ref 0), some (.ref 35), some (.int (jv_b v3)), some (.int v4), some (.int q12), some (.int q13.1), none, none] [.int (jv_b q22.1)] q22.2
              refine gl_if_eq (x := (jv_b q22.1)) (tgt := 136) (pc' := 132) hE dL_law_129 (by decide) rfl (fun c23 => ?_) (fun c23 => ?_)
              · have c23 := jv_b0 c23
                rw [if_neg c23] at hq15
                refine gl_iconst (v := (0 : Int32)) (pc' := 137) hE dL_law_136 rfl (by decide) ?_
                cases hq15
                exact gl_fg [true, true, true, false, true, true, false, true, true] (by omega) kq15
              · have c23 := jv_b1 c23
                rw [if_pos c23] at hq15
                refine gl_iconst (v := (1 : Int32)) (pc' := 133) hE dL_law_132 rfl (by decide) ?_
                refine gl_goto (tgt := 137) hE dL_law_133 (by decide) ?_
                cases hq15
                exact gl_fg [true, true, true, false, true, true, false, true, true] (by omega) kq15
set_option maxRecDepth 100000 in
set_option maxHeartbeats 4000000 in
theorem ok_L_law {Nn : Nat} {xs : Nat → Int32} {E : jv_E} (hl0 : (jv_l E).stackTraces = false) (hE : gl_C (gl_3 Nn xs) E RL cL_law 9 22 11192) {τ : jv_S × jv_S} {r : Bool × jv_S × jv_S} (h : f_L_law Nn xs τ = some r) (hret : gl_Rt (gl_3 Nn xs) E 11192 cL_law (jv_b r.1) r.2) : gl_V (gl_3 Nn xs) E 0 16 [some (.ref 70), some (.ref 0), some (.ref 35), none, none, none, none, none, none] [] τ := by
  unfold f_L_law at h
  refine gl_aload_n (x := 0) (pc' := 17) hE dL_law_16 rfl 1 rfl rfl ?_
  refine gl_iconst (v := (0 : Int32)) (pc' := 18) hE dL_law_17 rfl (by decide) ?_
  refine gl_iconst (v := (3 : Int32)) (pc' := 19) hE dL_law_18 rfl (by decide) ?_
  refine gl_aload_n (x := 70) (pc' := 20) hE dL_law_19 rfl 0 rfl rfl ?_
  refine gl_iconst (v := (0 : Int32)) (pc' := 21) hE dL_law_20 rfl (by decide) ?_
  obtain ⟨q1, hq1, h⟩ := jv_bd_some h
  refine gl_callL (As := [.ref 70, .int (0 : Int32)]) (As1 := [.ref 70, .int (0 : Int32)]) (gg := (fun G => G)) (pc' := 24) hE (fun _ => gl_tc) gl_bc dL_law_21 rfl lS_L_138 (ok_L_cell hq1) (fun _ => rfl) rfl (by decide) rfl (Nat.le_of_ble_eq_true rfl) (by omega) ?_
  show gl_V (gl_3 Nn xs) E 0 24 [some (.ref 70), some (.ref 0), some (.ref 35), none, none, none, none, none, none] [.int q1, .int (3 : Int32), .int (0 : Int32), .ref 0] τ
  refine gl_bipush (v := (6 : Int32)) (pc' := 26) hE dL_law_24 rfl (by decide) ?_
  obtain ⟨q2, hq2, h⟩ := jv_bd_some h
  refine gl_callS1 (o := some (.int q2)) (As := [.int q1, .int (6 : Int32)]) (As1 := [.int q1, .int (6 : Int32)]) (gg := (fun G => G)) (pc' := 29) hE (fun _ => gl_tL) dL_law_26 rfl lS_L_100 (ok_L_low hq2) (fun _ => rfl) (fun _ => rfl) rfl (by decide) rfl (Nat.le_of_ble_eq_true rfl) (by omega) ?_
  show gl_V (gl_3 Nn xs) E 0 29 [some (.ref 70), some (.ref 0), some (.ref 35), none, none, none, none, none, none] [.int q2, .int (3 : Int32), .int (0 : Int32), .ref 0] τ
  refine gl_iadd (x := (3 : Int32)) (y := q2) (pc' := 30) hE dL_law_29 rfl ?_
  refine gl_iconst (v := (0 : Int32)) (pc' := 31) hE dL_law_30 rfl (by decide) ?_
  obtain ⟨q3, hq3, h⟩ := jv_bd_some h
  refine gl_callW (As := [.ref 0, .int (0 : Int32), .int ((3 : Int32) + q2), .int (0 : Int32)]) (As1 := [.ref 0, .int (0 : Int32), .int ((3 : Int32) + q2), .int (0 : Int32)]) (gg := (fun G => G)) (pc' := 34) (v := q3.1) hE (fun _ => gl_tL) gl_b1 dL_law_31 rfl lK_L_113 (ok_L_starts hl0 hq3) (fun _ => rfl) rfl (by decide) rfl (Nat.le_of_ble_eq_true rfl) (by omega) ?_
  show gl_V (gl_3 Nn xs) E 1 34 [some (.ref 70), some (.ref 0), some (.ref 35), none, none, none, none, none, none] [.int q3.1] (q3.2, τ.2)
  refine gl_iconst (v := (1 : Int32)) (pc' := 35) hE dL_law_34 rfl (by decide) ?_
  obtain ⟨q5, hq5, h⟩ := jv_bd_some h
  have kq5 : gl_V (gl_3 Nn xs) E 2 65 [some (.ref 70), some (.ref 0), some (.ref 35), none, none, none, none, none, none] [.int (jv_b q5.1)] q5.2 := by
    refine gl_istore_n (x := (jv_b q5.1)) (L' := [some (.ref 70), some (.ref 0), some (.ref 35), some (.int (jv_b q5.1)), none, none, none, none, none]) (pc' := 66) hE dL_law_65 rfl 3 rfl (by decide) rfl rfl ?_
    refine gl_iconst (v := (1 : Int32)) (pc' := 67) hE dL_law_66 rfl (by decide) ?_
    refine gl_istore (x := (1 : Int32)) (L' := [some (.ref 70), some (.ref 0), some (.ref 35), some (.int (jv_b q5.1)), some (.int (1 : Int32)), none, none, none, none]) (pc' := 69) hE dL_law_67 rfl (by decide) rfl rfl ?_
    obtain ⟨q49, hq49, h⟩ := jv_bd_some h
    refine gl_fg [true, true, true, true, true, true, true, true, true] (Nat.le_refl _) (lp_L_law_69 hl0 hE 72 q5.1 (1 : Int32) q5.2 _ hq49 _ (V := 11162) (by omega) (by omega) (fun z hz => ?_))
    subst hz
    refine gl_iload_n (x := (jv_b q49.1)) (pc' := 303) hE dL_law_302 rfl 3 rfl rfl ?_
    obtain ⟨q51, hq51, h⟩ := jv_bd_some h
    have kq51 : gl_V (gl_3 Nn xs) E 11192 321 [none, none, none, none, none, none, none, none, none] [.int (jv_b q51.1)] q51.2 := by
      cases h
      exact hret _ _ _ (by omega) dL_law_321
    refine gl_if_eq (x := (jv_b q49.1)) (tgt := 320) (pc' := 306) hE dL_law_303 (by decide) rfl (fun c50 => ?_) (fun c50 => ?_)
    · have c50 := jv_b0 c50
      rw [if_neg c50] at hq51
      refine gl_iconst (v := (0 : Int32)) (pc' := 321) hE dL_law_320 rfl (by decide) ?_
      cases hq51
      exact gl_fg [true, false, false, false, true, true, true, true, true] (by omega) kq51
    · have c50 := jv_b1 c50
      rw [if_pos c50] at hq51
      refine gl_aload_n (x := 0) (pc' := 307) hE dL_law_306 rfl 1 rfl rfl ?_
      refine gl_aload_n (x := 35) (pc' := 308) hE dL_law_307 rfl 2 rfl rfl ?_
      refine gl_bipush (v := (77 : Int32)) (pc' := 310) hE dL_law_308 rfl (by decide) ?_
      obtain ⟨q52, hq52, hq51⟩ := jv_bd_some hq51
      refine gl_callL (As := [.ref 0, .ref 35, .int (77 : Int32)]) (As1 := [.ref 0, .ref 35, .int (77 : Int32)]) (gg := (fun G => G)) (pc' := 313) (v := (jv_b q52.1)) hE (fun _ => gl_t2) gl_b2 dL_law_310 rfl lS_L_145 (ok_L_areAlike hl0 hq52) (fun _ => rfl) rfl (by decide) rfl (Nat.le_of_ble_eq_true rfl) (by omega) ?_
      show gl_V (gl_3 Nn xs) E 11192 313 [none, some (.ref 0), some (.ref 35), some (.int (jv_b q49.1)), none, none, none, none, none] [.int (jv_b q52.1)] q52.2
      refine gl_if_eq (x := (jv_b q52.1)) (tgt := 320) (pc' := 316) hE dL_law_313 (by decide) rfl (fun c53 => ?_) (fun c53 => ?_)
      · have c53 := jv_b0 c53
        rw [if_neg c53] at hq51
        refine gl_iconst (v := (0 : Int32)) (pc' := 321) hE dL_law_320 rfl (by decide) ?_
        cases hq51
        exact gl_fg [true, false, false, false, true, true, true, true, true] (by omega) kq51
      · have c53 := jv_b1 c53
        rw [if_pos c53] at hq51
        refine gl_iconst (v := (1 : Int32)) (pc' := 317) hE dL_law_316 rfl (by decide) ?_
        refine gl_goto (tgt := 321) hE dL_law_317 (by decide) ?_
        cases hq51
        exact gl_fg [true, false, false, false, true, true, true, true, true] (by omega) kq51
  refine gl_icmp_ne (x := q3.1) (y := (1 : Int32)) (tgt := 64) (pc' := 38) hE dL_law_35 (by decide) rfl (fun c4 => ?_) (fun c4 => ?_)
  · rw [if_neg c4] at hq5
    refine gl_iconst (v := (0 : Int32)) (pc' := 65) hE dL_law_64 rfl (by decide) ?_
    cases hq5
    exact gl_fg [true, true, true, true, true, true, true, true, true] (by omega) kq5
  · rw [if_pos c4] at hq5
    refine gl_aload_n (x := 35) (pc' := 39) hE dL_law_38 rfl 2 rfl rfl ?_
    refine gl_iconst (v := (0 : Int32)) (pc' := 40) hE dL_law_39 rfl (by decide) ?_
    refine gl_iconst (v := (3 : Int32)) (pc' := 41) hE dL_law_40 rfl (by decide) ?_
    refine gl_aload_n (x := 70) (pc' := 42) hE dL_law_41 rfl 0 rfl rfl ?_
    refine gl_iconst (v := (0 : Int32)) (pc' := 43) hE dL_law_42 rfl (by decide) ?_
    obtain ⟨q6, hq6, hq5⟩ := jv_bd_some hq5
    refine gl_callL (As := [.ref 70, .int (0 : Int32)]) (As1 := [.ref 70, .int (0 : Int32)]) (gg := (fun G => G)) (pc' := 46) hE (fun _ => gl_tc) gl_bc dL_law_43 rfl lS_L_138 (ok_L_cell hq6) (fun _ => rfl) rfl (by decide) rfl (Nat.le_of_ble_eq_true rfl) (by omega) ?_
    show gl_V (gl_3 Nn xs) E 1 46 [some (.ref 70), some (.ref 0), some (.ref 35), none, none, none, none, none, none] [.int q6, .int (3 : Int32), .int (0 : Int32), .ref 35] (q3.2, τ.2)
    refine gl_bipush (v := (6 : Int32)) (pc' := 48) hE dL_law_46 rfl (by decide) ?_
    obtain ⟨q7, hq7, hq5⟩ := jv_bd_some hq5
    refine gl_callS1 (o := some (.int q7)) (As := [.int q6, .int (6 : Int32)]) (As1 := [.int q6, .int (6 : Int32)]) (gg := (fun G => G)) (pc' := 51) hE (fun _ => gl_tL) dL_law_48 rfl lS_L_100 (ok_L_low hq7) (fun _ => rfl) (fun _ => rfl) rfl (by decide) rfl (Nat.le_of_ble_eq_true rfl) (by omega) ?_
    show gl_V (gl_3 Nn xs) E 1 51 [some (.ref 70), some (.ref 0), some (.ref 35), none, none, none, none, none, none] [.int q7, .int (3 : Int32), .int (0 : Int32), .ref 35] (q3.2, τ.2)
    refine gl_iadd (x := (3 : Int32)) (y := q7) (pc' := 52) hE dL_law_51 rfl ?_
    refine gl_iconst (v := (0 : Int32)) (pc' := 53) hE dL_law_52 rfl (by decide) ?_
    obtain ⟨q8, hq8, hq5⟩ := jv_bd_some hq5
    refine gl_callW (As := [.ref 35, .int (0 : Int32), .int ((3 : Int32) + q7), .int (0 : Int32)]) (As1 := [.ref 0, .int (0 : Int32), .int ((3 : Int32) + q7), .int (0 : Int32)]) (gg := jv_rt) (pc' := 56) (v := q8.1) hE (fun _ => gl_tR) gl_b1 dL_law_53 rfl lK_L_113 (ok_L_starts hl0 hq8) (fun _ => rfl) rfl (by decide) rfl (Nat.le_of_ble_eq_true rfl) (by omega) ?_
    show gl_V (gl_3 Nn xs) E 2 56 [some (.ref 70), some (.ref 0), some (.ref 35), none, none, none, none, none, none] [.int q8.1] (q3.2, q8.2)
    refine gl_iconst (v := (1 : Int32)) (pc' := 57) hE dL_law_56 rfl (by decide) ?_
    refine gl_icmp_ne (x := q8.1) (y := (1 : Int32)) (tgt := 64) (pc' := 60) hE dL_law_57 (by decide) rfl (fun c9 => ?_) (fun c9 => ?_)
    · rw [if_neg c9] at hq5
      refine gl_iconst (v := (0 : Int32)) (pc' := 65) hE dL_law_64 rfl (by decide) ?_
      cases hq5
      exact gl_fg [true, true, true, true, true, true, true, true, true] (by omega) kq5
    · rw [if_pos c9] at hq5
      refine gl_iconst (v := (1 : Int32)) (pc' := 61) hE dL_law_60 rfl (by decide) ?_
      refine gl_goto (tgt := 65) hE dL_law_61 (by decide) ?_
      cases hq5
      exact gl_fg [true, true, true, true, true, true, true, true, true] (by omega) kq5
