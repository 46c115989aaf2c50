noncomputable def f_L_act (σ : jv_S) (p1 : Int32) : Option (Int32 × jv_S) := jv_bd (f_L_low (p1 >>> ((24 : Int32) &&& 31)) (8 : Int32)) (fun q1 => jv_lt (if q1 = 0 then (true) else (false)) (fun q3 => jv_lt (if q3 = true then ((13 : Int32)) else ((f_X7_nodes σ))) (fun q5 => jv_bd (f_L_low (p1 >>> ((3 : Int32) &&& 31)) q5) (fun q6 => jv_bd (if q3 = true then (jv_bd (f_L_low (p1 >>> ((6 : Int32) &&& 31)) (13 : Int32)) (fun q11 => some q11)) else (jv_bd (f_L_low (p1 >>> ((6 : Int32) &&& 31)) ((f_X7_nodes σ) - (1 : Int32))) (fun q9 => if (f_X7_nodes σ) = 0 then none else (some (((q6 + (1 : Int32)) + q9) - ((q6 + (1 : Int32)) + q9) / (f_X7_nodes σ) * (f_X7_nodes σ)))))) (fun q8 => jv_lt (if q3 = true then ((30 : Int32)) else (((f_X7_edges σ) + (1 : Int32)))) (fun q13 => jv_bd (f_L_low (p1 >>> ((5 : Int32) &&& 31)) q13) (fun q14 => jv_bd (f_L_low p1 (24 : Int32)) (fun q15 => if (9 : Int32) ≤ q15 then (if q15 = (9 : Int32) then (jv_bd (f_L_low (p1 >>> ((9 : Int32) &&& 31)) (6 : Int32)) (fun q39 => jv_bd (if q39 = 0 then (jv_lt (if q3 = true then ((14 : Int32)) else ((9 : Int32))) (fun q43 => jv_bd (f_L_low (p1 >>> ((4 : Int32) &&& 31)) q43) (fun q44 => jv_lt (if q3 = true then ((0 : Int32)) else ((2 : Int32))) (fun q46 => some (q44 + q46))))) else (some (0 : Int32))) (fun q41 => jv_bd (f_L_starts σ (0 : Int32) q41 (0 : Int32)) (fun q47 => some (q47.1, q47.2))))) else (if (12 : Int32) ≤ q15 then (if (16 : Int32) ≤ q15 then (if (18 : Int32) ≤ q15 then (if (20 : Int32) ≤ q15 then (jv_lt (if (22 : Int32) ≤ q15 then ((4 : Int32)) else ((0 : Int32))) (fun q23 => jv_bd (f_L_draws σ q23 (0 : Int32)) (fun q24 => some ((q24.1 + (1 : Int32)), q24.2)))) else (jv_bd (f_L_starts σ (q15 - (17 : Int32)) q6 q8) (fun q25 => some (q25.1, q25.2)))) else (jv_bd (f_L_low (p1 >>> ((10 : Int32) &&& 31)) (24 : Int32)) (fun q26 => jv_bd (f_L_sets σ (3 : Int32) q14 q26) (fun q27 => some (q27.1, q27.2))))) else (jv_lt (if (14 : Int32) ≤ q15 then ((2 : Int32)) else ((1 : Int32))) (fun q29 => jv_lt (if (14 : Int32) ≤ q15 then (q6) else (q14)) (fun q31 => jv_bd (f_L_sets σ q29 q31 (0 : Int32)) (fun q32 => some (q32.1, q32.2)))))) else (jv_lt (if q3 = true then ((1100 : Int32)) else ((30 : Int32))) (fun q34 => jv_bd (f_L_low (p1 >>> ((9 : Int32) &&& 31)) q34) (fun q35 => jv_lt (if q3 = true then (false) else (true)) (fun q37 => jv_bd (f_L_sets σ (0 : Int32) q14 (q35 + (jv_b q37))) (fun q38 => some (q38.1, q38.2)))))))) else (jv_lt (if q3 = true then ((1100 : Int32)) else ((30 : Int32))) (fun q49 => jv_bd (f_L_low (p1 >>> ((9 : Int32) &&& 31)) q49) (fun q50 => jv_lt (if q3 = true then (false) else (true)) (fun q52 => jv_bd (f_L_add σ q6 q8 (q50 + (jv_b q52))) (fun q53 => some (q53.1, q53.2))))))))))))))
set_option maxRecDepth 100000 in
set_option maxHeartbeats 4000000 in
theorem ok_L_act {G : jv_G} {l : Launch} (hl0 : l.stackTraces = false) {σ : jv_S} {p1 : Int32} {r : Int32 × jv_S} (h : f_L_act σ p1 = some r) : gl_M0 gl_1 G l 21 M_L_act (gl_cd M_L_act) [.ref 0, .int p1] σ r.1 r.2 1 := by
  refine gl_of (L0 := [some (.ref 0), some (.int p1), none, none, none, none, none]) (Or.inl rfl) (by decide +kernel) (Nat.le_of_ble_eq_true rfl) rfl (jv_okI _) (fun _ _ h => h.1) (fun E e1 e2 hE hT hret => ?_)
  subst e1; subst e2
  unfold f_L_act at h
  refine gl_iload_n (x := p1) (pc' := 1) hE dL_act_0 rfl 1 rfl rfl ?_
  refine gl_bipush (v := (24 : Int32)) (pc' := 3) hE dL_act_1 rfl (by decide) ?_
  refine gl_ishr (x := p1) (y := (24 : Int32)) (pc' := 4) hE dL_act_3 rfl ?_
  refine gl_bipush (v := (8 : Int32)) (pc' := 6) hE dL_act_4 rfl (by decide) ?_
  obtain ⟨q1, hq1, h⟩ := jv_bd_some h
  refine gl_callS1 (o := some (.int q1)) (As := [.int (p1 >>> ((24 : Int32) &&& 31)), .int (8 : Int32)]) (As1 := [.int (p1 >>> ((24 : Int32) &&& 31)), .int (8 : Int32)]) (gg := (fun G => G)) (pc' := 9) hE (fun _ => gl_s1) dL_act_6 rfl lS_L_100 (ok_L_low hq1) (fun _ => rfl) (fun _ => rfl) rfl (by decide) rfl (Nat.le_of_ble_eq_true rfl) (by omega) ?_
  show gl_V gl_1 E 0 9 [some (.ref 0), some (.int p1), none, none, none, none, none] [.int q1] σ
  obtain ⟨q3, hq3, h⟩ := jv_lt_eq h
  have kq3 : gl_V gl_1 E 0 17 [some (.ref 0), some (.int p1), none, none, none, none, none] [.int (jv_b q3)] σ := by
    refine gl_istore_n (x := (jv_b q3)) (L' := [some (.ref 0), some (.int p1), some (.int (jv_b q3)), none, none, none, none]) (pc' := 18) hE dL_act_17 rfl 2 rfl (by decide) rfl rfl ?_
    refine gl_iload_n (x := p1) (pc' := 19) hE dL_act_18 rfl 1 rfl rfl ?_
    refine gl_iconst (v := (3 : Int32)) (pc' := 20) hE dL_act_19 rfl (by decide) ?_
    refine gl_ishr (x := p1) (y := (3 : Int32)) (pc' := 21) hE dL_act_20 rfl ?_
    refine gl_iload_n (x := (jv_b q3)) (pc' := 22) hE dL_act_21 rfl 2 rfl rfl ?_
    obtain ⟨q5, hq5, h⟩ := jv_lt_eq h
    have kq5 : gl_V gl_1 E 0 34 [some (.ref 0), some (.int p1), some (.int (jv_b q3)), none, none, none, none] [.int q5, .int (p1 >>> ((3 : Int32) &&& 31))] σ := by
      obtain ⟨q6, hq6, h⟩ := jv_bd_some h
      refine gl_callS1 (o := some (.int q6)) (As := [.int (p1 >>> ((3 : Int32) &&& 31)), .int q5]) (As1 := [.int (p1 >>> ((3 : Int32) &&& 31)), .int q5]) (gg := (fun G => G)) (pc' := 37) hE (fun _ => gl_s1) dL_act_34 rfl lS_L_100 (ok_L_low hq6) (fun _ => rfl) (fun _ => rfl) rfl (by decide) rfl (Nat.le_of_ble_eq_true rfl) (by omega) ?_
      show gl_V gl_1 E 0 37 [some (.ref 0), some (.int p1), some (.int (jv_b q3)), none, none, none, none] [.int q6] σ
      refine gl_istore_n (x := q6) (L' := [some (.ref 0), some (.int p1), some (.int (jv_b q3)), some (.int q6), none, none, none]) (pc' := 38) hE dL_act_37 rfl 3 rfl (by decide) rfl rfl ?_
      refine gl_iload_n (x := (jv_b q3)) (pc' := 39) hE dL_act_38 rfl 2 rfl rfl ?_
      obtain ⟨q8, hq8, h⟩ := jv_bd_some h
      have kq8 : gl_V gl_1 E 0 76 [some (.ref 0), some (.int p1), some (.int (jv_b q3)), some (.int q6), none, none, none] [.int q8] σ := by
        refine gl_istore (x := q8) (L' := [some (.ref 0), some (.int p1), some (.int (jv_b q3)), some (.int q6), some (.int q8), none, none]) (pc' := 78) hE dL_act_76 rfl (by decide) rfl rfl ?_
        refine gl_iload_n (x := p1) (pc' := 79) hE dL_act_78 rfl 1 rfl rfl ?_
        refine gl_iconst (v := (5 : Int32)) (pc' := 80) hE dL_act_79 rfl (by decide) ?_
        refine gl_ishr (x := p1) (y := (5 : Int32)) (pc' := 81) hE dL_act_80 rfl ?_
        refine gl_iload_n (x := (jv_b q3)) (pc' := 82) hE dL_act_81 rfl 2 rfl rfl ?_
        obtain ⟨q13, hq13, h⟩ := jv_lt_eq h
        have kq13 : gl_V gl_1 E 0 96 [some (.ref 0), some (.int p1), some (.int (jv_b q3)), some (.int q6), some (.int q8), none, none] [.int q13, .int (p1 >>> ((5 : Int32) &&& 31))] σ := by
          obtain ⟨q14, hq14, h⟩ := jv_bd_some h
          refine gl_callS1 (o := some (.int q14)) (As := [.int (p1 >>> ((5 : Int32) &&& 31)), .int q13]) (As1 := [.int (p1 >>> ((5 : Int32) &&& 31)), .int q13]) (gg := (fun G => G)) (pc' := 99) hE (fun _ => gl_s1) dL_act_96 rfl lS_L_100 (ok_L_low hq14) (fun _ => rfl) (fun _ => rfl) rfl (by decide) rfl (Nat.le_of_ble_eq_true rfl) (by omega) ?_
          show gl_V gl_1 E 0 99 [some (.ref 0), some (.int p1), some (.int (jv_b q3)), some (.int q6), some (.int q8), none, none] [.int q14] σ
          refine gl_istore (x := q14) (L' := [some (.ref 0), some (.int p1), some (.int (jv_b q3)), some (.int q6), some (.int q8), some (.int q14), none]) (pc' := 101) hE dL_act_99 rfl (by decide) rfl rfl ?_
          refine gl_iload_n (x := p1) (pc' := 102) hE dL_act_101 rfl 1 rfl rfl ?_
          refine gl_bipush (v := (24 : Int32)) (pc' := 104) hE dL_act_102 rfl (by decide) ?_
          obtain ⟨q15, hq15, h⟩ := jv_bd_some h
          refine gl_callS1 (o := some (.int q15)) (As := [.int p1, .int (24 : Int32)]) (As1 := [.int p1, .int (24 : Int32)]) (gg := (fun G => G)) (pc' := 107) hE (fun _ => gl_s1) dL_act_104 rfl lS_L_100 (ok_L_low hq15) (fun _ => rfl) (fun _ => rfl) rfl (by decide) rfl (Nat.le_of_ble_eq_true rfl) (by omega) ?_
          show gl_V gl_1 E 0 107 [some (.ref 0), some (.int p1), some (.int (jv_b q3)), some (.int q6), some (.int q8), some (.int q14), none] [.int q15] σ
          refine gl_istore (x := q15) (L' := [some (.ref 0), some (.int p1), some (.int (jv_b q3)), some (.int q6), some (.int q8), some (.int q14), some (.int q15)]) (pc' := 109) hE dL_act_107 rfl (by decide) rfl rfl ?_
          refine gl_iload (x := q15) (pc' := 111) hE dL_act_109 rfl rfl ?_
          refine gl_bipush (v := (9 : Int32)) (pc' := 113) hE dL_act_111 rfl (by decide) ?_
          refine gl_icmp_ge (x := q15) (y := (9 : Int32)) (tgt := 153) (pc' := 116) hE dL_act_113 (by decide) rfl (fun c16 => ?_) (fun c16 => ?_)
          · rw [if_pos c16] at h
            refine gl_iload (x := q15) (pc' := 155) hE dL_act_153 rfl rfl ?_
            refine gl_bipush (v := (9 : Int32)) (pc' := 157) hE dL_act_155 rfl (by decide) ?_
            refine gl_icmp_ne (x := q15) (y := (9 : Int32)) (tgt := 210) (pc' := 160) hE dL_act_157 (by decide) rfl (fun c17 => ?_) (fun c17 => ?_)
            · rw [if_neg c17] at h
              refine gl_iload (x := q15) (pc' := 212) hE dL_act_210 rfl rfl ?_
              refine gl_bipush (v := (12 : Int32)) (pc' := 214) hE dL_act_212 rfl (by decide) ?_
              refine gl_icmp_ge (x := q15) (y := (12 : Int32)) (tgt := 254) (pc' := 217) hE dL_act_214 (by decide) rfl (fun c18 => ?_) (fun c18 => ?_)
              · rw [if_pos c18] at h
                refine gl_iload (x := q15) (pc' := 256) hE dL_act_254 rfl rfl ?_
                refine gl_bipush (v := (16 : Int32)) (pc' := 258) hE dL_act_256 rfl (by decide) ?_
                refine gl_icmp_ge (x := q15) (y := (16 : Int32)) (tgt := 292) (pc' := 261) hE dL_act_258 (by decide) rfl (fun c19 => ?_) (fun c19 => ?_)
                · rw [if_pos c19] at h
                  refine gl_iload (x := q15) (pc' := 294) hE dL_act_292 rfl rfl ?_
                  refine gl_bipush (v := (18 : Int32)) (pc' := 296) hE dL_act_294 rfl (by decide) ?_
                  refine gl_icmp_ge (x := q15) (y := (18 : Int32)) (tgt := 316) (pc' := 299) hE dL_act_296 (by decide) rfl (fun c20 => ?_) (fun c20 => ?_)
                  · rw [if_pos c20] at h
                    refine gl_iload (x := q15) (pc' := 318) hE dL_act_316 rfl rfl ?_
                    refine gl_bipush (v := (20 : Int32)) (pc' := 320) hE dL_act_318 rfl (by decide) ?_
                    refine gl_icmp_ge (x := q15) (y := (20 : Int32)) (tgt := 338) (pc' := 323) hE dL_act_320 (by decide) rfl (fun c21 => ?_) (fun c21 => ?_)
                    · rw [if_pos c21] at h
                      refine gl_aload_n (x := 0) (pc' := 339) hE dL_act_338 rfl 0 rfl rfl ?_
                      refine gl_iload (x := q15) (pc' := 341) hE dL_act_339 rfl rfl ?_
                      refine gl_bipush (v := (22 : Int32)) (pc' := 343) hE dL_act_341 rfl (by decide) ?_
                      obtain ⟨q23, hq23, h⟩ := jv_lt_eq h
                      have kq23 : gl_V gl_1 E 0 351 [none, none, none, none, none, none, none] [.int q23, .ref 0] σ := by
                        refine gl_iconst (v := (0 : Int32)) (pc' := 352) hE dL_act_351 rfl (by decide) ?_
                        obtain ⟨q24, hq24, h⟩ := jv_bd_some h
                        refine gl_callW (As := [.ref 0, .int q23, .int (0 : Int32)]) (As1 := [.ref 0, .int q23, .int (0 : Int32)]) (gg := (fun G => G)) (pc' := 355) (v := q24.1) hE (fun _ => gl_s1) gl_b1 dL_act_352 rfl lK_L_119 (ok_L_draws hl0 hq24) (fun _ => rfl) rfl (by decide) rfl (Nat.le_of_ble_eq_true rfl) (by omega) ?_
                        show gl_V gl_1 E 1 355 [none, none, none, none, none, none, none] [.int q24.1] q24.2
                        refine gl_iconst (v := (1 : Int32)) (pc' := 356) hE dL_act_355 rfl (by decide) ?_
                        refine gl_iadd (x := q24.1) (y := (1 : Int32)) (pc' := 357) hE dL_act_356 rfl ?_
                        cases h
                        exact hret _ _ _ (by omega) dL_act_357
                      refine gl_icmp_ge (x := q15) (y := (22 : Int32)) (tgt := 350) (pc' := 346) hE dL_act_343 (by decide) rfl (fun c22 => ?_) (fun c22 => ?_)
                      · rw [if_pos c22] at hq23
                        refine gl_iconst (v := (4 : Int32)) (pc' := 351) hE dL_act_350 rfl (by decide) ?_
                        cases hq23
                        exact gl_fg [false, false, false, false, false, false, false] (by omega) kq23
                      · rw [if_neg c22] at hq23
                        refine gl_iconst (v := (0 : Int32)) (pc' := 347) hE dL_act_346 rfl (by decide) ?_
                        refine gl_goto (tgt := 351) hE dL_act_347 (by decide) ?_
                        cases hq23
                        exact gl_fg [false, false, false, false, false, false, false] (by omega) kq23
                    · rw [if_neg c21] at h
                      refine gl_aload_n (x := 0) (pc' := 324) hE dL_act_323 rfl 0 rfl rfl ?_
                      refine gl_iload (x := q15) (pc' := 326) hE dL_act_324 rfl rfl ?_
                      refine gl_bipush (v := (17 : Int32)) (pc' := 328) hE dL_act_326 rfl (by decide) ?_
                      refine gl_isub (x := q15) (y := (17 : Int32)) (pc' := 329) hE dL_act_328 rfl ?_
                      refine gl_iload_n (x := q6) (pc' := 330) hE dL_act_329 rfl 3 rfl rfl ?_
                      refine gl_iload (x := q8) (pc' := 332) hE dL_act_330 rfl rfl ?_
                      obtain ⟨q25, hq25, h⟩ := jv_bd_some h
                      refine gl_callW (As := [.ref 0, .int (q15 - (17 : Int32)), .int q6, .int q8]) (As1 := [.ref 0, .int (q15 - (17 : Int32)), .int q6, .int q8]) (gg := (fun G => G)) (pc' := 335) (v := q25.1) hE (fun _ => gl_s1) gl_b1 dL_act_332 rfl lK_L_113 (ok_L_starts hl0 hq25) (fun _ => rfl) rfl (by decide) rfl (Nat.le_of_ble_eq_true rfl) (by omega) ?_
                      show gl_V gl_1 E 1 335 [some (.ref 0), some (.int p1), some (.int (jv_b q3)), some (.int q6), some (.int q8), some (.int q14), some (.int q15)] [.int q25.1] q25.2
                      refine gl_goto (tgt := 357) hE dL_act_335 (by decide) ?_
                      cases h
                      exact hret _ _ _ (by omega) dL_act_357
                  · rw [if_neg c20] at h
                    refine gl_aload_n (x := 0) (pc' := 300) hE dL_act_299 rfl 0 rfl rfl ?_
                    refine gl_iconst (v := (3 : Int32)) (pc' := 301) hE dL_act_300 rfl (by decide) ?_
                    refine gl_iload (x := q14) (pc' := 303) hE dL_act_301 rfl rfl ?_
                    refine gl_iload_n (x := p1) (pc' := 304) hE dL_act_303 rfl 1 rfl rfl ?_
                    refine gl_bipush (v := (10 : Int32)) (pc' := 306) hE dL_act_304 rfl (by decide) ?_
                    refine gl_ishr (x := p1) (y := (10 : Int32)) (pc' := 307) hE dL_act_306 rfl ?_
                    refine gl_bipush (v := (24 : Int32)) (pc' := 309) hE dL_act_307 rfl (by decide) ?_
                    obtain ⟨q26, hq26, h⟩ := jv_bd_some h
                    refine gl_callS1 (o := some (.int q26)) (As := [.int (p1 >>> ((10 : Int32) &&& 31)), .int (24 : Int32)]) (As1 := [.int (p1 >>> ((10 : Int32) &&& 31)), .int (24 : Int32)]) (gg := (fun G => G)) (pc' := 312) hE (fun _ => gl_s1) dL_act_309 rfl lS_L_100 (ok_L_low hq26) (fun _ => rfl) (fun _ => rfl) rfl (by decide) rfl (Nat.le_of_ble_eq_true rfl) (by omega) ?_
                    show gl_V gl_1 E 0 312 [some (.ref 0), some (.int p1), some (.int (jv_b q3)), some (.int q6), some (.int q8), some (.int q14), some (.int q15)] [.int q26, .int q14, .int (3 : Int32), .ref 0] σ
                    obtain ⟨q27, hq27, h⟩ := jv_bd_some h
                    refine gl_callW (As := [.ref 0, .int (3 : Int32), .int q14, .int q26]) (As1 := [.ref 0, .int (3 : Int32), .int q14, .int q26]) (gg := (fun G => G)) (pc' := 315) (v := q27.1) hE (fun _ => gl_s1) gl_b1 dL_act_312 rfl lK_L_116 (ok_L_sets hl0 hq27) (fun _ => rfl) rfl (by decide) rfl (Nat.le_of_ble_eq_true rfl) (by omega) ?_
                    show gl_V gl_1 E 1 315 [some (.ref 0), some (.int p1), some (.int (jv_b q3)), some (.int q6), some (.int q8), some (.int q14), some (.int q15)] [.int q27.1] q27.2
                    cases h
                    exact hret _ _ _ (by omega) dL_act_315
                · rw [if_neg c19] at h
                  refine gl_aload_n (x := 0) (pc' := 262) hE dL_act_261 rfl 0 rfl rfl ?_
                  refine gl_iload (x := q15) (pc' := 264) hE dL_act_262 rfl rfl ?_
                  refine gl_bipush (v := (14 : Int32)) (pc' := 266) hE dL_act_264 rfl (by decide) ?_
                  obtain ⟨q29, hq29, h⟩ := jv_lt_eq h
                  have kq29 : gl_V gl_1 E 0 274 [none, none, none, some (.int q6), none, some (.int q14), some (.int q15)] [.int q29, .ref 0] σ := by
                    refine gl_iload (x := q15) (pc' := 276) hE dL_act_274 rfl rfl ?_
                    refine gl_bipush (v := (14 : Int32)) (pc' := 278) hE dL_act_276 rfl (by decide) ?_
                    obtain ⟨q31, hq31, h⟩ := jv_lt_eq h
                    have kq31 : gl_V gl_1 E 0 287 [none, none, none, none, none, none, none] [.int q31, .int q29, .ref 0] σ := by
                      refine gl_iconst (v := (0 : Int32)) (pc' := 288) hE dL_act_287 rfl (by decide) ?_
                      obtain ⟨q32, hq32, h⟩ := jv_bd_some h
                      refine gl_callW (As := [.ref 0, .int q29, .int q31, .int (0 : Int32)]) (As1 := [.ref 0, .int q29, .int q31, .int (0 : Int32)]) (gg := (fun G => G)) (pc' := 291) (v := q32.1) hE (fun _ => gl_s1) gl_b1 dL_act_288 rfl lK_L_116 (ok_L_sets hl0 hq32) (fun _ => rfl) rfl (by decide) rfl (Nat.le_of_ble_eq_true rfl) (by omega) ?_
                      show gl_V gl_1 E 1 291 [none, none, none, none, none, none, none] [.int q32.1] q32.2
                      cases h
                      exact hret _ _ _ (by omega) dL_act_291
                    refine gl_icmp_ge (x := q15) (y := (14 : Int32)) (tgt := 286) (pc' := 281) hE dL_act_278 (by decide) rfl (fun c30 => ?_) (fun c30 => ?_)
                    · rw [if_pos c30] at hq31
                      refine gl_iload_n (x := q6) (pc' := 287) hE dL_act_286 rfl 3 rfl rfl ?_
                      cases hq31
                      exact gl_fg [true, true, true, false, true, false, false] (by omega) kq31
                    · rw [if_neg c30] at hq31
                      refine gl_iload (x := q14) (pc' := 283) hE dL_act_281 rfl rfl ?_
                      refine gl_goto (tgt := 287) hE dL_act_283 (by decide) ?_
                      cases hq31
                      exact gl_fg [true, true, true, false, true, false, false] (by omega) kq31
                  refine gl_icmp_ge (x := q15) (y := (14 : Int32)) (tgt := 273) (pc' := 269) hE dL_act_266 (by decide) rfl (fun c28 => ?_) (fun c28 => ?_)
                  · rw [if_pos c28] at hq29
                    refine gl_iconst (v := (2 : Int32)) (pc' := 274) hE dL_act_273 rfl (by decide) ?_
                    cases hq29
                    exact gl_fg [false, false, false, true, false, true, true] (by omega) kq29
                  · rw [if_neg c28] at hq29
                    refine gl_iconst (v := (1 : Int32)) (pc' := 270) hE dL_act_269 rfl (by decide) ?_
                    refine gl_goto (tgt := 274) hE dL_act_270 (by decide) ?_
                    cases hq29
                    exact gl_fg [false, false, false, true, false, true, true] (by omega) kq29
              · rw [if_neg c18] at h
                refine gl_aload_n (x := 0) (pc' := 218) hE dL_act_217 rfl 0 rfl rfl ?_
                refine gl_iconst (v := (0 : Int32)) (pc' := 219) hE dL_act_218 rfl (by decide) ?_
                refine gl_iload (x := q14) (pc' := 221) hE dL_act_219 rfl rfl ?_
                refine gl_iload_n (x := p1) (pc' := 222) hE dL_act_221 rfl 1 rfl rfl ?_
                refine gl_bipush (v := (9 : Int32)) (pc' := 224) hE dL_act_222 rfl (by decide) ?_
                refine gl_ishr (x := p1) (y := (9 : Int32)) (pc' := 225) hE dL_act_224 rfl ?_
                refine gl_iload_n (x := (jv_b q3)) (pc' := 226) hE dL_act_225 rfl 2 rfl rfl ?_
                obtain ⟨q34, hq34, h⟩ := jv_lt_eq h
                have kq34 : gl_V gl_1 E 0 237 [none, none, some (.int (jv_b q3)), none, none, none, none] [.int q34, .int (p1 >>> ((9 : Int32) &&& 31)), .int q14, .int (0 : Int32), .ref 0] σ := by
                  obtain ⟨q35, hq35, h⟩ := jv_bd_some h
                  refine gl_callS1 (o := some (.int q35)) (As := [.int (p1 >>> ((9 : Int32) &&& 31)), .int q34]) (As1 := [.int (p1 >>> ((9 : Int32) &&& 31)), .int q34]) (gg := (fun G => G)) (pc' := 240) hE (fun _ => gl_s1) dL_act_237 rfl lS_L_100 (ok_L_low hq35) (fun _ => rfl) (fun _ => rfl) rfl (by decide) rfl (Nat.le_of_ble_eq_true rfl) (by omega) ?_
                  show gl_V gl_1 E 0 240 [none, none, some (.int (jv_b q3)), none, none, none, none] [.int q35, .int q14, .int (0 : Int32), .ref 0] σ
                  refine gl_iload_n (x := (jv_b q3)) (pc' := 241) hE dL_act_240 rfl 2 rfl rfl ?_
                  obtain ⟨q37, hq37, h⟩ := jv_lt_eq h
                  have kq37 : gl_V gl_1 E 0 249 [none, none, none, none, none, none, none] [.int (jv_b q37), .int q35, .int q14, .int (0 : Int32), .ref 0] σ := by
                    refine gl_iadd (x := q35) (y := (jv_b q37)) (pc' := 250) hE dL_act_249 rfl ?_
                    obtain ⟨q38, hq38, h⟩ := jv_bd_some h
                    refine gl_callW (As := [.ref 0, .int (0 : Int32), .int q14, .int (q35 + (jv_b q37))]) (As1 := [.ref 0, .int (0 : Int32), .int q14, .int (q35 + (jv_b q37))]) (gg := (fun G => G)) (pc' := 253) (v := q38.1) hE (fun _ => gl_s1) gl_b1 dL_act_250 rfl lK_L_116 (ok_L_sets hl0 hq38) (fun _ => rfl) rfl (by decide) rfl (Nat.le_of_ble_eq_true rfl) (by omega) ?_
                    show gl_V gl_1 E 1 253 [none, none, none, none, none, none, none] [.int q38.1] q38.2
                    cases h
                    exact hret _ _ _ (by omega) dL_act_253
                  refine gl_if_eq (x := (jv_b q3)) (tgt := 248) (pc' := 244) hE dL_act_241 (by decide) rfl (fun c36 => ?_) (fun c36 => ?_)
                  · have c36 := jv_b0 c36
                    rw [if_neg c36] at hq37
                    refine gl_iconst (v := (1 : Int32)) (pc' := 249) hE dL_act_248 rfl (by decide) ?_
                    cases hq37
                    exact gl_fg [true, true, false, true, true, true, true] (by omega) kq37
                  · have c36 := jv_b1 c36
                    rw [if_pos c36] at hq37
                    refine gl_iconst (v := (0 : Int32)) (pc' := 245) hE dL_act_244 rfl (by decide) ?_
                    refine gl_goto (tgt := 249) hE dL_act_245 (by decide) ?_
                    cases hq37
                    exact gl_fg [true, true, false, true, true, true, true] (by omega) kq37
                refine gl_if_eq (x := (jv_b q3)) (tgt := 235) (pc' := 229) hE dL_act_226 (by decide) rfl (fun c33 => ?_) (fun c33 => ?_)
                · have c33 := jv_b0 c33
                  rw [if_neg c33] at hq34
                  refine gl_bipush (v := (30 : Int32)) (pc' := 237) hE dL_act_235 rfl (by decide) ?_
                  cases hq34
                  exact gl_fg [false, false, true, false, false, false, false] (by omega) kq34
                · have c33 := jv_b1 c33
                  rw [if_pos c33] at hq34
                  refine gl_sipush (v := (1100 : Int32)) (pc' := 232) hE dL_act_229 rfl (by decide) ?_
                  refine gl_goto (tgt := 237) hE dL_act_232 (by decide) ?_
                  cases hq34
                  exact gl_fg [false, false, true, false, false, false, false] (by omega) kq34
            · rw [if_pos c17] at h
              refine gl_aload_n (x := 0) (pc' := 161) hE dL_act_160 rfl 0 rfl rfl ?_
              refine gl_iconst (v := (0 : Int32)) (pc' := 162) hE dL_act_161 rfl (by decide) ?_
              refine gl_iload_n (x := p1) (pc' := 163) hE dL_act_162 rfl 1 rfl rfl ?_
              refine gl_bipush (v := (9 : Int32)) (pc' := 165) hE dL_act_163 rfl (by decide) ?_
              refine gl_ishr (x := p1) (y := (9 : Int32)) (pc' := 166) hE dL_act_165 rfl ?_
              refine gl_bipush (v := (6 : Int32)) (pc' := 168) hE dL_act_166 rfl (by decide) ?_
              obtain ⟨q39, hq39, h⟩ := jv_bd_some h
              refine gl_callS1 (o := some (.int q39)) (As := [.int (p1 >>> ((9 : Int32) &&& 31)), .int (6 : Int32)]) (As1 := [.int (p1 >>> ((9 : Int32) &&& 31)), .int (6 : Int32)]) (gg := (fun G => G)) (pc' := 171) hE (fun _ => gl_s1) dL_act_168 rfl lS_L_100 (ok_L_low hq39) (fun _ => rfl) (fun _ => rfl) rfl (by decide) rfl (Nat.le_of_ble_eq_true rfl) (by omega) ?_
              show gl_V gl_1 E 0 171 [some (.ref 0), some (.int p1), some (.int (jv_b q3)), some (.int q6), some (.int q8), some (.int q14), some (.int q15)] [.int q39, .int (0 : Int32), .ref 0] σ
              obtain ⟨q41, hq41, h⟩ := jv_bd_some h
              have kq41 : gl_V gl_1 E 0 205 [none, none, none, none, none, none, none] [.int q41, .int (0 : Int32), .ref 0] σ := by
                refine gl_iconst (v := (0 : Int32)) (pc' := 206) hE dL_act_205 rfl (by decide) ?_
                obtain ⟨q47, hq47, h⟩ := jv_bd_some h
                refine gl_callW (As := [.ref 0, .int (0 : Int32), .int q41, .int (0 : Int32)]) (As1 := [.ref 0, .int (0 : Int32), .int q41, .int (0 : Int32)]) (gg := (fun G => G)) (pc' := 209) (v := q47.1) hE (fun _ => gl_s1) gl_b1 dL_act_206 rfl lK_L_113 (ok_L_starts hl0 hq47) (fun _ => rfl) rfl (by decide) rfl (Nat.le_of_ble_eq_true rfl) (by omega) ?_
                show gl_V gl_1 E 1 209 [none, none, none, none, none, none, none] [.int q47.1] q47.2
                cases h
                exact hret _ _ _ (by omega) dL_act_209
              refine gl_if_ne (x := q39) (tgt := 204) (pc' := 174) hE dL_act_171 (by decide) rfl (fun c40 => ?_) (fun c40 => ?_)
              · rw [if_neg c40] at hq41
                refine gl_iconst (v := (0 : Int32)) (pc' := 205) hE dL_act_204 rfl (by decide) ?_
                cases hq41
                exact gl_fg [false, false, false, false, false, false, false] (by omega) kq41
              · rw [if_pos c40] at hq41
                refine gl_iload_n (x := p1) (pc' := 175) hE dL_act_174 rfl 1 rfl rfl ?_
                refine gl_iconst (v := (4 : Int32)) (pc' := 176) hE dL_act_175 rfl (by decide) ?_
                refine gl_ishr (x := p1) (y := (4 : Int32)) (pc' := 177) hE dL_act_176 rfl ?_
                refine gl_iload_n (x := (jv_b q3)) (pc' := 178) hE dL_act_177 rfl 2 rfl rfl ?_
                obtain ⟨q43, hq43, hq41⟩ := jv_lt_eq hq41
                have kq43 : gl_V gl_1 E 0 188 [none, none, some (.int (jv_b q3)), none, none, none, none] [.int q43, .int (p1 >>> ((4 : Int32) &&& 31)), .int (0 : Int32), .ref 0] σ := by
                  obtain ⟨q44, hq44, hq41⟩ := jv_bd_some hq41
                  refine gl_callS1 (o := some (.int q44)) (As := [.int (p1 >>> ((4 : Int32) &&& 31)), .int q43]) (As1 := [.int (p1 >>> ((4 : Int32) &&& 31)), .int q43]) (gg := (fun G => G)) (pc' := 191) hE (fun _ => gl_s1) dL_act_188 rfl lS_L_100 (ok_L_low hq44) (fun _ => rfl) (fun _ => rfl) rfl (by decide) rfl (Nat.le_of_ble_eq_true rfl) (by omega) ?_
                  show gl_V gl_1 E 0 191 [none, none, some (.int (jv_b q3)), none, none, none, none] [.int q44, .int (0 : Int32), .ref 0] σ
                  refine gl_iload_n (x := (jv_b q3)) (pc' := 192) hE dL_act_191 rfl 2 rfl rfl ?_
                  obtain ⟨q46, hq46, hq41⟩ := jv_lt_eq hq41
                  have kq46 : gl_V gl_1 E 0 200 [none, none, none, none, none, none, none] [.int q46, .int q44, .int (0 : Int32), .ref 0] σ := by
                    refine gl_iadd (x := q44) (y := q46) (pc' := 201) hE dL_act_200 rfl ?_
                    refine gl_goto (tgt := 205) hE dL_act_201 (by decide) ?_
                    cases hq41
                    exact gl_fg [true, true, true, true, true, true, true] (by omega) kq41
                  refine gl_if_eq (x := (jv_b q3)) (tgt := 199) (pc' := 195) hE dL_act_192 (by decide) rfl (fun c45 => ?_) (fun c45 => ?_)
                  · have c45 := jv_b0 c45
                    rw [if_neg c45] at hq46
                    refine gl_iconst (v := (2 : Int32)) (pc' := 200) hE dL_act_199 rfl (by decide) ?_
                    cases hq46
                    exact gl_fg [true, true, false, true, true, true, true] (by omega) kq46
                  · have c45 := jv_b1 c45
                    rw [if_pos c45] at hq46
                    refine gl_iconst (v := (0 : Int32)) (pc' := 196) hE dL_act_195 rfl (by decide) ?_
                    refine gl_goto (tgt := 200) hE dL_act_196 (by decide) ?_
                    cases hq46
                    exact gl_fg [true, true, false, true, true, true, true] (by omega) kq46
                refine gl_if_eq (x := (jv_b q3)) (tgt := 186) (pc' := 181) hE dL_act_178 (by decide) rfl (fun c42 => ?_) (fun c42 => ?_)
                · have c42 := jv_b0 c42
                  rw [if_neg c42] at hq43
                  refine gl_bipush (v := (9 : Int32)) (pc' := 188) hE dL_act_186 rfl (by decide) ?_
                  cases hq43
                  exact gl_fg [false, false, true, false, false, false, false] (by omega) kq43
                · have c42 := jv_b1 c42
                  rw [if_pos c42] at hq43
                  refine gl_bipush (v := (14 : Int32)) (pc' := 183) hE dL_act_181 rfl (by decide) ?_
                  refine gl_goto (tgt := 188) hE dL_act_183 (by decide) ?_
                  cases hq43
                  exact gl_fg [false, false, true, false, false, false, false] (by omega) kq43
          · rw [if_neg c16] at h
            refine gl_aload_n (x := 0) (pc' := 117) hE dL_act_116 rfl 0 rfl rfl ?_
            refine gl_iload_n (x := q6) (pc' := 118) hE dL_act_117 rfl 3 rfl rfl ?_
            refine gl_iload (x := q8) (pc' := 120) hE dL_act_118 rfl rfl ?_
            refine gl_iload_n (x := p1) (pc' := 121) hE dL_act_120 rfl 1 rfl rfl ?_
            refine gl_bipush (v := (9 : Int32)) (pc' := 123) hE dL_act_121 rfl (by decide) ?_
            refine gl_ishr (x := p1) (y := (9 : Int32)) (pc' := 124) hE dL_act_123 rfl ?_
            refine gl_iload_n (x := (jv_b q3)) (pc' := 125) hE dL_act_124 rfl 2 rfl rfl ?_
            obtain ⟨q49, hq49, h⟩ := jv_lt_eq h
            have kq49 : gl_V gl_1 E 0 136 [none, none, some (.int (jv_b q3)), none, none, none, none] [.int q49, .int (p1 >>> ((9 : Int32) &&& 31)), .int q8, .int q6, .ref 0] σ := by
              obtain ⟨q50, hq50, h⟩ := jv_bd_some h
              refine gl_callS1 (o := some (.int q50)) (As := [.int (p1 >>> ((9 : Int32) &&& 31)), .int q49]) (As1 := [.int (p1 >>> ((9 : Int32) &&& 31)), .int q49]) (gg := (fun G => G)) (pc' := 139) hE (fun _ => gl_s1) dL_act_136 rfl lS_L_100 (ok_L_low hq50) (fun _ => rfl) (fun _ => rfl) rfl (by decide) rfl (Nat.le_of_ble_eq_true rfl) (by omega) ?_
              show gl_V gl_1 E 0 139 [none, none, some (.int (jv_b q3)), none, none, none, none] [.int q50, .int q8, .int q6, .ref 0] σ
              refine gl_iload_n (x := (jv_b q3)) (pc' := 140) hE dL_act_139 rfl 2 rfl rfl ?_
              obtain ⟨q52, hq52, h⟩ := jv_lt_eq h
              have kq52 : gl_V gl_1 E 0 148 [none, none, none, none, none, none, none] [.int (jv_b q52), .int q50, .int q8, .int q6, .ref 0] σ := by
                refine gl_iadd (x := q50) (y := (jv_b q52)) (pc' := 149) hE dL_act_148 rfl ?_
                obtain ⟨q53, hq53, h⟩ := jv_bd_some h
                refine gl_callW (As := [.ref 0, .int q6, .int q8, .int (q50 + (jv_b q52))]) (As1 := [.ref 0, .int q6, .int q8, .int (q50 + (jv_b q52))]) (gg := (fun G => G)) (pc' := 152) (v := q53.1) hE (fun _ => gl_s1) gl_b1 dL_act_149 rfl lK_L_109 (ok_L_add hl0 hq53) (fun _ => rfl) rfl (by decide) rfl (Nat.le_of_ble_eq_true rfl) (by omega) ?_
                show gl_V gl_1 E 1 152 [none, none, none, none, none, none, none] [.int q53.1] q53.2
                cases h
                exact hret _ _ _ (by omega) dL_act_152
              refine gl_if_eq (x := (jv_b q3)) (tgt := 147) (pc' := 143) hE dL_act_140 (by decide) rfl (fun c51 => ?_) (fun c51 => ?_)
              · have c51 := jv_b0 c51
                rw [if_neg c51] at hq52
                refine gl_iconst (v := (1 : Int32)) (pc' := 148) hE dL_act_147 rfl (by decide) ?_
                cases hq52
                exact gl_fg [true, true, false, true, true, true, true] (by omega) kq52
              · have c51 := jv_b1 c51
                rw [if_pos c51] at hq52
                refine gl_iconst (v := (0 : Int32)) (pc' := 144) hE dL_act_143 rfl (by decide) ?_
                refine gl_goto (tgt := 148) hE dL_act_144 (by decide) ?_
                cases hq52
                exact gl_fg [true, true, false, true, true, true, true] (by omega) kq52
            refine gl_if_eq (x := (jv_b q3)) (tgt := 134) (pc' := 128) hE dL_act_125 (by decide) rfl (fun c48 => ?_) (fun c48 => ?_)
            · have c48 := jv_b0 c48
              rw [if_neg c48] at hq49
              refine gl_bipush (v := (30 : Int32)) (pc' := 136) hE dL_act_134 rfl (by decide) ?_
              cases hq49
              exact gl_fg [false, false, true, false, false, false, false] (by omega) kq49
            · have c48 := jv_b1 c48
              rw [if_pos c48] at hq49
              refine gl_sipush (v := (1100 : Int32)) (pc' := 131) hE dL_act_128 rfl (by decide) ?_
              refine gl_goto (tgt := 136) hE dL_act_131 (by decide) ?_
              cases hq49
              exact gl_fg [false, false, true, false, false, false, false] (by omega) kq49
        refine gl_if_eq (x := (jv_b q3)) (tgt := 90) (pc' := 85) hE dL_act_82 (by decide) rfl (fun c12 => ?_) (fun c12 => ?_)
        · have c12 := jv_b0 c12
          rw [if_neg c12] at hq13
          refine gl_aload_n (x := 0) (pc' := 91) hE dL_act_90 rfl 0 rfl rfl ?_
          refine gl_callV (k1 := 0) (o := some (.int (f_X7_edges σ))) (As := []) (As1 := []) (gg := (fun G => G)) (pc' := 94) hE (fun _ => gl_s1) dL_act_91 rfl lV_L_106 (ok_X7_edges rfl) (fun _ => rfl) (fun _ => rfl) (fun _ => rfl) (fun _ => rfl) rfl rfl rfl (by decide) rfl (Nat.le_of_ble_eq_true rfl) (by omega) ?_
          show gl_V gl_1 E 0 94 [some (.ref 0), some (.int p1), some (.int (jv_b q3)), some (.int q6), some (.int q8), none, none] [.int (f_X7_edges σ), .int (p1 >>> ((5 : Int32) &&& 31))] σ
          refine gl_iconst (v := (1 : Int32)) (pc' := 95) hE dL_act_94 rfl (by decide) ?_
          refine gl_iadd (x := (f_X7_edges σ)) (y := (1 : Int32)) (pc' := 96) hE dL_act_95 rfl ?_
          cases hq13
          exact gl_fg [true, true, true, true, true, true, true] (by omega) kq13
        · have c12 := jv_b1 c12
          rw [if_pos c12] at hq13
          refine gl_bipush (v := (30 : Int32)) (pc' := 87) hE dL_act_85 rfl (by decide) ?_
          refine gl_goto (tgt := 96) hE dL_act_87 (by decide) ?_
          cases hq13
          exact gl_fg [true, true, true, true, true, true, true] (by omega) kq13
      refine gl_if_eq (x := (jv_b q3)) (tgt := 54) (pc' := 42) hE dL_act_39 (by decide) rfl (fun c7 => ?_) (fun c7 => ?_)
      · have c7 := jv_b0 c7
        rw [if_neg c7] at hq8
        refine gl_iload_n (x := q6) (pc' := 55) hE dL_act_54 rfl 3 rfl rfl ?_
        refine gl_iconst (v := (1 : Int32)) (pc' := 56) hE dL_act_55 rfl (by decide) ?_
        refine gl_iadd (x := q6) (y := (1 : Int32)) (pc' := 57) hE dL_act_56 rfl ?_
        refine gl_iload_n (x := p1) (pc' := 58) hE dL_act_57 rfl 1 rfl rfl ?_
        refine gl_bipush (v := (6 : Int32)) (pc' := 60) hE dL_act_58 rfl (by decide) ?_
        refine gl_ishr (x := p1) (y := (6 : Int32)) (pc' := 61) hE dL_act_60 rfl ?_
        refine gl_aload_n (x := 0) (pc' := 62) hE dL_act_61 rfl 0 rfl rfl ?_
        refine gl_callV (k1 := 0) (o := some (.int (f_X7_nodes σ))) (As := []) (As1 := []) (gg := (fun G => G)) (pc' := 65) hE (fun _ => gl_s1) dL_act_62 rfl lV_L_103 (ok_X7_nodes rfl) (fun _ => rfl) (fun _ => rfl) (fun _ => rfl) (fun _ => rfl) rfl rfl rfl (by decide) rfl (Nat.le_of_ble_eq_true rfl) (by omega) ?_
        show gl_V gl_1 E 0 65 [some (.ref 0), some (.int p1), some (.int (jv_b q3)), some (.int q6), none, none, none] [.int (f_X7_nodes σ), .int (p1 >>> ((6 : Int32) &&& 31)), .int (q6 + (1 : Int32))] σ
        refine gl_iconst (v := (1 : Int32)) (pc' := 66) hE dL_act_65 rfl (by decide) ?_
        refine gl_isub (x := (f_X7_nodes σ)) (y := (1 : Int32)) (pc' := 67) hE dL_act_66 rfl ?_
        obtain ⟨q9, hq9, hq8⟩ := jv_bd_some hq8
        refine gl_callS1 (o := some (.int q9)) (As := [.int (p1 >>> ((6 : Int32) &&& 31)), .int ((f_X7_nodes σ) - (1 : Int32))]) (As1 := [.int (p1 >>> ((6 : Int32) &&& 31)), .int ((f_X7_nodes σ) - (1 : Int32))]) (gg := (fun G => G)) (pc' := 70) hE (fun _ => gl_s1) dL_act_67 rfl lS_L_100 (ok_L_low hq9) (fun _ => rfl) (fun _ => rfl) rfl (by decide) rfl (Nat.le_of_ble_eq_true rfl) (by omega) ?_
        show gl_V gl_1 E 0 70 [some (.ref 0), some (.int p1), some (.int (jv_b q3)), some (.int q6), none, none, none] [.int q9, .int (q6 + (1 : Int32))] σ
        refine gl_iadd (x := (q6 + (1 : Int32))) (y := q9) (pc' := 71) hE dL_act_70 rfl ?_
        refine gl_aload_n (x := 0) (pc' := 72) hE dL_act_71 rfl 0 rfl rfl ?_
        refine gl_callV (k1 := 0) (o := some (.int (f_X7_nodes σ))) (As := []) (As1 := []) (gg := (fun G => G)) (pc' := 75) hE (fun _ => gl_s1) dL_act_72 rfl lV_L_103 (ok_X7_nodes rfl) (fun _ => rfl) (fun _ => rfl) (fun _ => rfl) (fun _ => rfl) rfl rfl rfl (by decide) rfl (Nat.le_of_ble_eq_true rfl) (by omega) ?_
        show gl_V gl_1 E 0 75 [some (.ref 0), some (.int p1), some (.int (jv_b q3)), some (.int q6), none, none, none] [.int (f_X7_nodes σ), .int ((q6 + (1 : Int32)) + q9)] σ
        by_cases c10 : (f_X7_nodes σ) = 0
        · rw [if_pos c10] at hq8; cases hq8
        · rw [if_neg c10] at hq8
          refine gl_irem (x := ((q6 + (1 : Int32)) + q9)) (y := (f_X7_nodes σ)) (pc' := 76) hE dL_act_75 rfl c10 ?_
          cases hq8
          exact gl_fg [true, true, true, true, true, true, true] (by omega) kq8
      · have c7 := jv_b1 c7
        rw [if_pos c7] at hq8
        refine gl_iload_n (x := p1) (pc' := 43) hE dL_act_42 rfl 1 rfl rfl ?_
        refine gl_bipush (v := (6 : Int32)) (pc' := 45) hE dL_act_43 rfl (by decide) ?_
        refine gl_ishr (x := p1) (y := (6 : Int32)) (pc' := 46) hE dL_act_45 rfl ?_
        refine gl_bipush (v := (13 : Int32)) (pc' := 48) hE dL_act_46 rfl (by decide) ?_
        obtain ⟨q11, hq11, hq8⟩ := jv_bd_some hq8
        refine gl_callS1 (o := some (.int q11)) (As := [.int (p1 >>> ((6 : Int32) &&& 31)), .int (13 : Int32)]) (As1 := [.int (p1 >>> ((6 : Int32) &&& 31)), .int (13 : Int32)]) (gg := (fun G => G)) (pc' := 51) hE (fun _ => gl_s1) dL_act_48 rfl lS_L_100 (ok_L_low hq11) (fun _ => rfl) (fun _ => rfl) rfl (by decide) rfl (Nat.le_of_ble_eq_true rfl) (by omega) ?_
        show gl_V gl_1 E 0 51 [some (.ref 0), some (.int p1), some (.int (jv_b q3)), some (.int q6), none, none, none] [.int q11] σ
        refine gl_goto (tgt := 76) hE dL_act_51 (by decide) ?_
        cases hq8
        exact gl_fg [true, true, true, true, true, true, true] (by omega) kq8
    refine gl_if_eq (x := (jv_b q3)) (tgt := 30) (pc' := 25) hE dL_act_22 (by decide) rfl (fun c4 => ?_) (fun c4 => ?_)
    · have c4 := jv_b0 c4
      rw [if_neg c4] at hq5
      refine gl_aload_n (x := 0) (pc' := 31) hE dL_act_30 rfl 0 rfl rfl ?_
      refine gl_callV (k1 := 0) (o := some (.int (f_X7_nodes σ))) (As := []) (As1 := []) (gg := (fun G => G)) (pc' := 34) hE (fun _ => gl_s1) dL_act_31 rfl lV_L_103 (ok_X7_nodes rfl) (fun _ => rfl) (fun _ => rfl) (fun _ => rfl) (fun _ => rfl) rfl rfl rfl (by decide) rfl (Nat.le_of_ble_eq_true rfl) (by omega) ?_
      show gl_V gl_1 E 0 34 [some (.ref 0), some (.int p1), some (.int (jv_b q3)), none, none, none, none] [.int (f_X7_nodes σ), .int (p1 >>> ((3 : Int32) &&& 31))] σ
      cases hq5
      exact gl_fg [true, true, true, true, true, true, true] (by omega) kq5
    · have c4 := jv_b1 c4
      rw [if_pos c4] at hq5
      refine gl_bipush (v := (13 : Int32)) (pc' := 27) hE dL_act_25 rfl (by decide) ?_
      refine gl_goto (tgt := 34) hE dL_act_27 (by decide) ?_
      cases hq5
      exact gl_fg [true, true, true, true, true, true, true] (by omega) kq5
  refine gl_if_ne (x := q1) (tgt := 16) (pc' := 12) hE dL_act_9 (by decide) rfl (fun c2 => ?_) (fun c2 => ?_)
  · rw [if_neg c2] at hq3
    refine gl_iconst (v := (0 : Int32)) (pc' := 17) hE dL_act_16 rfl (by decide) ?_
    cases hq3
    exact gl_fg [true, true, true, true, true, true, true] (by omega) kq3
  · rw [if_pos c2] at hq3
    refine gl_iconst (v := (1 : Int32)) (pc' := 13) hE dL_act_12 rfl (by decide) ?_
    refine gl_goto (tgt := 17) hE dL_act_13 (by decide) ?_
    cases hq3
    exact gl_fg [true, true, true, true, true, true, true] (by omega) kq3
