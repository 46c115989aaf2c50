noncomputable def f_L_case0 (N : Nat) (xs : Nat → Int32) (v4 : Int32) (σ : jv_S) : Option jv_S := if jv_ck (v4 + (1 : Int32)) N = true then (jv_bd (f_L_begin σ (xs (v4 + (1 : Int32)).toNatClampNeg)) (fun q2 => if jv_ck (v4 + (1 : Int32)) N = true then (jv_bd (f_X8_begin q2.2 (xs (v4 + (1 : Int32)).toNatClampNeg)) (fun q4 => if (f_X8_thrown q4) = q2.1 then (some q4) else (none))) else none)) else none
set_option maxRecDepth 100000 in
set_option maxHeartbeats 4000000 in
theorem lc_0 {E : jv_E} {N : Nat} {xs : Nat → Int32} (hl0 : (jv_l E).stackTraces = false) (hE : jv_Cx E RL cL_law 7 21) (hR : jv_rc E 1) (hS : jv_Sc E N xs) {v4 : Int32} {σ τ : jv_S} (h : f_L_case0 N xs v4 σ = some τ) (hk : jv_V (jv_E1 E) 1620 [some (.ref 62), some (.ref 0), some (.ref 35), some (.ref 61), some (.int v4), none, none] [] τ) : jv_V E 156 [some (.ref 62), some (.ref 0), some (.ref 35), some (.ref 61), some (.int v4), none, none] [] σ := by
  unfold f_L_case0 at h
  refine jv_aload_n (x := 0) (pc' := 157) hE dL_law_156 rfl 1 rfl rfl ?_
  refine jv_aload_n (x := 62) (pc' := 158) hE dL_law_157 rfl 0 rfl rfl ?_
  refine jv_iload (x := v4) (pc' := 160) hE dL_law_158 rfl rfl ?_
  refine jv_iconst (v := (1 : Int32)) (pc' := 161) hE dL_law_160 rfl (by decide) ?_
  refine jv_iadd (x := v4) (y := (1 : Int32)) (pc' := 162) hE dL_law_161 rfl ?_
  by_cases c1 : jv_ck (v4 + (1 : Int32)) N = true
  · rw [if_pos c1] at h
    refine jv_sld (pc' := 163) hE hS dL_law_162 rfl (jv_ck_in c1) ?_
    show jv_V E 163 [some (.ref 62), some (.ref 0), some (.ref 35), some (.ref 61), some (.int v4), none, none] [.int (xs (v4 + (1 : Int32)).toNatClampNeg), .ref 0] σ
    obtain ⟨q2, hq2, h⟩ := jv_bd_some h
    refine jv_callW (pc' := 166) hE hR dL_law_163 rfl lK_L_98 (ok_L_begin hl0 hq2) rfl (by decide) rfl (Nat.le_of_ble_eq_true rfl) ?_
    show jv_V (jv_E1 E) 166 [some (.ref 62), some (.ref 0), some (.ref 35), some (.ref 61), some (.int v4), none, none] [.int q2.1] q2.2
    have hE := jv_Cx1 hE hR
    have hS := jv_Sc1 hS
    refine jv_istore (x := q2.1) (L' := [some (.ref 62), some (.ref 0), some (.ref 35), some (.ref 61), some (.int v4), some (.int q2.1), none]) (pc' := 168) hE dL_law_166 rfl (by decide) rfl rfl ?_
    refine jv_aload_n (x := 35) (pc' := 169) hE dL_law_168 rfl 2 rfl rfl ?_
    refine jv_aload_n (x := 62) (pc' := 170) hE dL_law_169 rfl 0 rfl rfl ?_
    refine jv_iload (x := v4) (pc' := 172) hE dL_law_170 rfl rfl ?_
    refine jv_iconst (v := (1 : Int32)) (pc' := 173) hE dL_law_172 rfl (by decide) ?_
    refine jv_iadd (x := v4) (y := (1 : Int32)) (pc' := 174) hE dL_law_173 rfl ?_
    by_cases c3 : jv_ck (v4 + (1 : Int32)) N = true
    · rw [if_pos c3] at h
      refine jv_sld (pc' := 175) hE hS dL_law_174 rfl (jv_ck_in c3) ?_
      show jv_V (jv_E1 E) 175 [some (.ref 62), some (.ref 0), some (.ref 35), some (.ref 61), some (.int v4), some (.int q2.1), none] [.int (xs (v4 + (1 : Int32)).toNatClampNeg), .ref 35] q2.2
      obtain ⟨q4, hq4, h⟩ := jv_bd_some h
      refine jv_callV (pc' := 178) (o := none) (σ' := q4) hE dL_law_175 rfl lV_L_103 (ok_X8_begin hq4) rfl rfl rfl (by decide) rfl (Nat.le_of_ble_eq_true rfl) ?_
      show jv_V (jv_E1 E) 178 [some (.ref 62), some (.ref 0), some (.ref 35), some (.ref 61), some (.int v4), some (.int q2.1), none] [] q4
      refine jv_aload_n (x := 35) (pc' := 179) hE dL_law_178 rfl 2 rfl rfl ?_
      refine jv_callV (pc' := 182) (o := some (.int (f_X8_thrown q4))) (σ' := q4) hE dL_law_179 rfl lV_L_104 (ok_X8_thrown rfl) rfl rfl rfl (by decide) rfl (Nat.le_of_ble_eq_true rfl) ?_
      show jv_V (jv_E1 E) 182 [some (.ref 62), some (.ref 0), some (.ref 35), some (.ref 61), some (.int v4), some (.int q2.1), none] [.int (f_X8_thrown q4)] q4
      refine jv_iload (x := q2.1) (pc' := 184) hE dL_law_182 rfl rfl ?_
      refine jv_icmp_eq (x := (f_X8_thrown q4)) (y := q2.1) (tgt := 189) (pc' := 187) hE dL_law_184 (by decide) rfl (fun c5 => ?_) (fun c5 => ?_)
      · rw [if_pos c5] at h
        refine jv_goto (tgt := 1620) hE dL_law_189 (by decide) ?_
        cases h
        exact jv_forget [true, true, true, true, true, false, false] hk
      · rw [if_neg c5] at h
        refine jv_iconst (v := (0 : Int32)) (pc' := 188) hE dL_law_187 rfl (by decide) ?_
        cases h
    · rw [if_neg c3] at h; cases h
  · rw [if_neg c1] at h; cases h
noncomputable def f_L_case1 (N : Nat) (xs : Nat → Int32) (v4 : Int32) (σ : jv_S) : Option jv_S := if jv_ck (v4 + (1 : Int32)) N = true then (if jv_ck (v4 + (2 : Int32)) N = true then (if jv_ck (v4 + (3 : Int32)) N = true then (jv_bd (f_L_addEdge σ (xs (v4 + (1 : Int32)).toNatClampNeg) (xs (v4 + (2 : Int32)).toNatClampNeg) (xs (v4 + (3 : Int32)).toNatClampNeg)) (fun q4 => if jv_ck (v4 + (1 : Int32)) N = true then (if jv_ck (v4 + (2 : Int32)) N = true then (if jv_ck (v4 + (3 : Int32)) N = true then (jv_bd (f_X8_addEdge q4.2 (xs (v4 + (1 : Int32)).toNatClampNeg) (xs (v4 + (2 : Int32)).toNatClampNeg) (xs (v4 + (3 : Int32)).toNatClampNeg)) (fun q8 => if (f_X8_thrown q8.2) = q4.1 then (if q4.1 = 0 then (if jv_ck (0 : Int32) 1 = true then (if (lg_cmp (q8.2.2 61 (0 : Int32).toNatClampNeg) q8.1.toInt64) = 0 then (some q8.2) else (none)) else none) else (some q8.2)) else (none))) else none) else none) else none)) else none) else none) else none
set_option maxRecDepth 100000 in
set_option maxHeartbeats 4000000 in
theorem lc_1 {E : jv_E} {N : Nat} {xs : Nat → Int32} (hl0 : (jv_l E).stackTraces = false) (hE : jv_Cx E RL cL_law 7 21) (hR : jv_rc E 1) (hS : jv_Sc E N xs) {v4 : Int32} {σ τ : jv_S} (h : f_L_case1 N xs v4 σ = some τ) (hk : jv_V (jv_E1 E) 1620 [some (.ref 62), some (.ref 0), some (.ref 35), some (.ref 61), some (.int v4), none, none] [] τ) : jv_V E 192 [some (.ref 62), some (.ref 0), some (.ref 35), some (.ref 61), some (.int v4), none, none] [] σ := by
  unfold f_L_case1 at h
  refine jv_aload_n (x := 0) (pc' := 193) hE dL_law_192 rfl 1 rfl rfl ?_
  refine jv_aload_n (x := 62) (pc' := 194) hE dL_law_193 rfl 0 rfl rfl ?_
  refine jv_iload (x := v4) (pc' := 196) hE dL_law_194 rfl rfl ?_
  refine jv_iconst (v := (1 : Int32)) (pc' := 197) hE dL_law_196 rfl (by decide) ?_
  refine jv_iadd (x := v4) (y := (1 : Int32)) (pc' := 198) hE dL_law_197 rfl ?_
  by_cases c1 : jv_ck (v4 + (1 : Int32)) N = true
  · rw [if_pos c1] at h
    refine jv_sld (pc' := 199) hE hS dL_law_198 rfl (jv_ck_in c1) ?_
    show jv_V E 199 [some (.ref 62), some (.ref 0), some (.ref 35), some (.ref 61), some (.int v4), none, none] [.int (xs (v4 + (1 : Int32)).toNatClampNeg), .ref 0] σ
    refine jv_aload_n (x := 62) (pc' := 200) hE dL_law_199 rfl 0 rfl rfl ?_
    refine jv_iload (x := v4) (pc' := 202) hE dL_law_200 rfl rfl ?_
    refine jv_iconst (v := (2 : Int32)) (pc' := 203) hE dL_law_202 rfl (by decide) ?_
    refine jv_iadd (x := v4) (y := (2 : Int32)) (pc' := 204) hE dL_law_203 rfl ?_
    by_cases c2 : jv_ck (v4 + (2 : Int32)) N = true
    · rw [if_pos c2] at h
      refine jv_sld (pc' := 205) hE hS dL_law_204 rfl (jv_ck_in c2) ?_
      show jv_V E 205 [some (.ref 62), some (.ref 0), some (.ref 35), some (.ref 61), some (.int v4), none, none] [.int (xs (v4 + (2 : Int32)).toNatClampNeg), .int (xs (v4 + (1 : Int32)).toNatClampNeg), .ref 0] σ
      refine jv_aload_n (x := 62) (pc' := 206) hE dL_law_205 rfl 0 rfl rfl ?_
      refine jv_iload (x := v4) (pc' := 208) hE dL_law_206 rfl rfl ?_
      refine jv_iconst (v := (3 : Int32)) (pc' := 209) hE dL_law_208 rfl (by decide) ?_
      refine jv_iadd (x := v4) (y := (3 : Int32)) (pc' := 210) hE dL_law_209 rfl ?_
      by_cases c3 : jv_ck (v4 + (3 : Int32)) N = true
      · rw [if_pos c3] at h
        refine jv_sld (pc' := 211) hE hS dL_law_210 rfl (jv_ck_in c3) ?_
        show jv_V E 211 [some (.ref 62), some (.ref 0), some (.ref 35), some (.ref 61), some (.int v4), none, none] [.int (xs (v4 + (3 : Int32)).toNatClampNeg), .int (xs (v4 + (2 : Int32)).toNatClampNeg), .int (xs (v4 + (1 : Int32)).toNatClampNeg), .ref 0] σ
        refine jv_aload_n (x := 61) (pc' := 212) hE dL_law_211 rfl 3 rfl rfl ?_
        obtain ⟨q4, hq4, h⟩ := jv_bd_some h
        refine jv_callW (pc' := 215) hE hR dL_law_212 rfl lK_L_107 (ok_L_addEdge hl0 hq4) rfl (by decide) rfl (Nat.le_of_ble_eq_true rfl) ?_
        show jv_V (jv_E1 E) 215 [some (.ref 62), some (.ref 0), some (.ref 35), some (.ref 61), some (.int v4), none, none] [.int q4.1] q4.2
        have hE := jv_Cx1 hE hR
        have hS := jv_Sc1 hS
        refine jv_istore (x := q4.1) (L' := [some (.ref 62), some (.ref 0), some (.ref 35), some (.ref 61), some (.int v4), some (.int q4.1), none]) (pc' := 217) hE dL_law_215 rfl (by decide) rfl rfl ?_
        refine jv_aload_n (x := 35) (pc' := 218) hE dL_law_217 rfl 2 rfl rfl ?_
        refine jv_aload_n (x := 62) (pc' := 219) hE dL_law_218 rfl 0 rfl rfl ?_
        refine jv_iload (x := v4) (pc' := 221) hE dL_law_219 rfl rfl ?_
        refine jv_iconst (v := (1 : Int32)) (pc' := 222) hE dL_law_221 rfl (by decide) ?_
        refine jv_iadd (x := v4) (y := (1 : Int32)) (pc' := 223) hE dL_law_222 rfl ?_
        by_cases c5 : jv_ck (v4 + (1 : Int32)) N = true
        · rw [if_pos c5] at h
          refine jv_sld (pc' := 224) hE hS dL_law_223 rfl (jv_ck_in c5) ?_
          show jv_V (jv_E1 E) 224 [some (.ref 62), some (.ref 0), some (.ref 35), some (.ref 61), some (.int v4), some (.int q4.1), none] [.int (xs (v4 + (1 : Int32)).toNatClampNeg), .ref 35] q4.2
          refine jv_aload_n (x := 62) (pc' := 225) hE dL_law_224 rfl 0 rfl rfl ?_
          refine jv_iload (x := v4) (pc' := 227) hE dL_law_225 rfl rfl ?_
          refine jv_iconst (v := (2 : Int32)) (pc' := 228) hE dL_law_227 rfl (by decide) ?_
          refine jv_iadd (x := v4) (y := (2 : Int32)) (pc' := 229) hE dL_law_228 rfl ?_
          by_cases c6 : jv_ck (v4 + (2 : Int32)) N = true
          · rw [if_pos c6] at h
            refine jv_sld (pc' := 230) hE hS dL_law_229 rfl (jv_ck_in c6) ?_
            show jv_V (jv_E1 E) 230 [some (.ref 62), some (.ref 0), some (.ref 35), some (.ref 61), some (.int v4), some (.int q4.1), none] [.int (xs (v4 + (2 : Int32)).toNatClampNeg), .int (xs (v4 + (1 : Int32)).toNatClampNeg), .ref 35] q4.2
            refine jv_aload_n (x := 62) (pc' := 231) hE dL_law_230 rfl 0 rfl rfl ?_
            refine jv_iload (x := v4) (pc' := 233) hE dL_law_231 rfl rfl ?_
            refine jv_iconst (v := (3 : Int32)) (pc' := 234) hE dL_law_233 rfl (by decide) ?_
            refine jv_iadd (x := v4) (y := (3 : Int32)) (pc' := 235) hE dL_law_234 rfl ?_
            by_cases c7 : jv_ck (v4 + (3 : Int32)) N = true
            · rw [if_pos c7] at h
              refine jv_sld (pc' := 236) hE hS dL_law_235 rfl (jv_ck_in c7) ?_
              show jv_V (jv_E1 E) 236 [some (.ref 62), some (.ref 0), some (.ref 35), some (.ref 61), some (.int v4), some (.int q4.1), none] [.int (xs (v4 + (3 : Int32)).toNatClampNeg), .int (xs (v4 + (2 : Int32)).toNatClampNeg), .int (xs (v4 + (1 : Int32)).toNatClampNeg), .ref 35] q4.2
              obtain ⟨q8, hq8, h⟩ := jv_bd_some h
              refine jv_callV (pc' := 239) (o := some (.int q8.1)) (σ' := q8.2) hE dL_law_236 rfl lV_L_110 (ok_X8_addEdge hq8) rfl rfl rfl (by decide) rfl (Nat.le_of_ble_eq_true rfl) ?_
              show jv_V (jv_E1 E) 239 [some (.ref 62), some (.ref 0), some (.ref 35), some (.ref 61), some (.int v4), some (.int q4.1), none] [.int q8.1] q8.2
              refine jv_istore (x := q8.1) (L' := [some (.ref 62), some (.ref 0), some (.ref 35), some (.ref 61), some (.int v4), some (.int q4.1), some (.int q8.1)]) (pc' := 241) hE dL_law_239 rfl (by decide) rfl rfl ?_
              refine jv_aload_n (x := 35) (pc' := 242) hE dL_law_241 rfl 2 rfl rfl ?_
              refine jv_callV (pc' := 245) (o := some (.int (f_X8_thrown q8.2))) (σ' := q8.2) hE dL_law_242 rfl lV_L_104 (ok_X8_thrown rfl) rfl rfl rfl (by decide) rfl (Nat.le_of_ble_eq_true rfl) ?_
              show jv_V (jv_E1 E) 245 [some (.ref 62), some (.ref 0), some (.ref 35), some (.ref 61), some (.int v4), some (.int q4.1), some (.int q8.1)] [.int (f_X8_thrown q8.2)] q8.2
              refine jv_iload (x := q4.1) (pc' := 247) hE dL_law_245 rfl rfl ?_
              refine jv_icmp_eq (x := (f_X8_thrown q8.2)) (y := q4.1) (tgt := 252) (pc' := 250) hE dL_law_247 (by decide) rfl (fun c9 => ?_) (fun c9 => ?_)
              · rw [if_pos c9] at h
                refine jv_iload (x := q4.1) (pc' := 254) hE dL_law_252 rfl rfl ?_
                refine jv_if_ne (x := q4.1) (tgt := 269) (pc' := 257) hE dL_law_254 (by decide) rfl (fun c10 => ?_) (fun c10 => ?_)
                · rw [if_neg c10] at h
                  refine jv_goto (tgt := 1620) hE dL_law_269 (by decide) ?_
                  cases h
                  exact jv_forget [true, true, true, true, true, false, false] hk
                · rw [if_pos c10] at h
                  refine jv_aload_n (x := 61) (pc' := 258) hE dL_law_257 rfl 3 rfl rfl ?_
                  refine jv_iconst (v := (0 : Int32)) (pc' := 259) hE dL_law_258 rfl (by decide) ?_
                  by_cases c11 : jv_ck (0 : Int32) 1 = true
                  · rw [if_pos c11] at h
                    refine jv_lald (pc' := 260) hE dL_law_259 rfl rfl (jv_ck_in c11) ?_
                    show jv_V (jv_E1 E) 260 [some (.ref 62), some (.ref 0), some (.ref 35), some (.ref 61), some (.int v4), some (.int q4.1), some (.int q8.1)] [.long (q8.2.2 61 (0 : Int32).toNatClampNeg)] q8.2
                    refine jv_iload (x := q8.1) (pc' := 262) hE dL_law_260 rfl rfl ?_
                    refine jv_i2l (x := q8.1) (pc' := 263) hE dL_law_262 rfl ?_
                    refine jv_lcmp (x := (q8.2.2 61 (0 : Int32).toNatClampNeg)) (y := q8.1.toInt64) (pc' := 264) hE dL_law_263 rfl ?_
                    refine jv_if_eq (x := (lg_cmp (q8.2.2 61 (0 : Int32).toNatClampNeg) q8.1.toInt64)) (tgt := 269) (pc' := 267) hE dL_law_264 (by decide) rfl (fun c12 => ?_) (fun c12 => ?_)
                    · rw [if_pos c12] at h
                      refine jv_goto (tgt := 1620) hE dL_law_269 (by decide) ?_
                      cases h
                      exact jv_forget [true, true, true, true, true, false, false] hk
                    · rw [if_neg c12] at h
                      refine jv_iconst (v := (0 : Int32)) (pc' := 268) hE dL_law_267 rfl (by decide) ?_
                      cases h
                  · rw [if_neg c11] at h; cases h
              · rw [if_neg c9] at h
                refine jv_iconst (v := (0 : Int32)) (pc' := 251) hE dL_law_250 rfl (by decide) ?_
                cases h
            · rw [if_neg c7] at h; cases h
          · rw [if_neg c6] at h; cases h
        · rw [if_neg c5] at h; cases h
      · rw [if_neg c3] at h; cases h
    · rw [if_neg c2] at h; cases h
  · rw [if_neg c1] at h; cases h
noncomputable def f_L_case2 (N : Nat) (xs : Nat → Int32) (v4 : Int32) (σ : jv_S) : Option jv_S := if jv_ck (v4 + (1 : Int32)) N = true then (if jv_ck (v4 + (2 : Int32)) N = true then (jv_bd (f_L_setLength σ (xs (v4 + (1 : Int32)).toNatClampNeg) (xs (v4 + (2 : Int32)).toNatClampNeg)) (fun q3 => if jv_ck (v4 + (1 : Int32)) N = true then (if jv_ck (v4 + (2 : Int32)) N = true then (jv_bd (f_X8_setLength q3.2 (xs (v4 + (1 : Int32)).toNatClampNeg) (xs (v4 + (2 : Int32)).toNatClampNeg)) (fun q6 => if (f_X8_thrown q6.2) = q3.1 then (if q3.1 = 0 then (if jv_ck (0 : Int32) 1 = true then (if (lg_cmp (q6.2.2 61 (0 : Int32).toNatClampNeg) q6.1.toInt64) = 0 then (some q6.2) else (none)) else none) else (some q6.2)) else (none))) else none) else none)) else none) else none
set_option maxRecDepth 100000 in
set_option maxHeartbeats 4000000 in
theorem lc_2 {E : jv_E} {N : Nat} {xs : Nat → Int32} (hl0 : (jv_l E).stackTraces = false) (hE : jv_Cx E RL cL_law 7 21) (hR : jv_rc E 1) (hS : jv_Sc E N xs) {v4 : Int32} {σ τ : jv_S} (h : f_L_case2 N xs v4 σ = some τ) (hk : jv_V (jv_E1 E) 1620 [some (.ref 62), some (.ref 0), some (.ref 35), some (.ref 61), some (.int v4), none, none] [] τ) : jv_V E 272 [some (.ref 62), some (.ref 0), some (.ref 35), some (.ref 61), some (.int v4), none, none] [] σ := by
  unfold f_L_case2 at h
  refine jv_aload_n (x := 0) (pc' := 273) hE dL_law_272 rfl 1 rfl rfl ?_
  refine jv_aload_n (x := 62) (pc' := 274) hE dL_law_273 rfl 0 rfl rfl ?_
  refine jv_iload (x := v4) (pc' := 276) hE dL_law_274 rfl rfl ?_
  refine jv_iconst (v := (1 : Int32)) (pc' := 277) hE dL_law_276 rfl (by decide) ?_
  refine jv_iadd (x := v4) (y := (1 : Int32)) (pc' := 278) hE dL_law_277 rfl ?_
  by_cases c1 : jv_ck (v4 + (1 : Int32)) N = true
  · rw [if_pos c1] at h
    refine jv_sld (pc' := 279) hE hS dL_law_278 rfl (jv_ck_in c1) ?_
    show jv_V E 279 [some (.ref 62), some (.ref 0), some (.ref 35), some (.ref 61), some (.int v4), none, none] [.int (xs (v4 + (1 : Int32)).toNatClampNeg), .ref 0] σ
    refine jv_aload_n (x := 62) (pc' := 280) hE dL_law_279 rfl 0 rfl rfl ?_
    refine jv_iload (x := v4) (pc' := 282) hE dL_law_280 rfl rfl ?_
    refine jv_iconst (v := (2 : Int32)) (pc' := 283) hE dL_law_282 rfl (by decide) ?_
    refine jv_iadd (x := v4) (y := (2 : Int32)) (pc' := 284) hE dL_law_283 rfl ?_
    by_cases c2 : jv_ck (v4 + (2 : Int32)) N = true
    · rw [if_pos c2] at h
      refine jv_sld (pc' := 285) hE hS dL_law_284 rfl (jv_ck_in c2) ?_
      show jv_V E 285 [some (.ref 62), some (.ref 0), some (.ref 35), some (.ref 61), some (.int v4), none, none] [.int (xs (v4 + (2 : Int32)).toNatClampNeg), .int (xs (v4 + (1 : Int32)).toNatClampNeg), .ref 0] σ
      refine jv_aload_n (x := 61) (pc' := 286) hE dL_law_285 rfl 3 rfl rfl ?_
      obtain ⟨q3, hq3, h⟩ := jv_bd_some h
      refine jv_callW (pc' := 289) hE hR dL_law_286 rfl lK_L_111 (ok_L_setLength hl0 hq3) rfl (by decide) rfl (Nat.le_of_ble_eq_true rfl) ?_
      show jv_V (jv_E1 E) 289 [some (.ref 62), some (.ref 0), some (.ref 35), some (.ref 61), some (.int v4), none, none] [.int q3.1] q3.2
      have hE := jv_Cx1 hE hR
      have hS := jv_Sc1 hS
      refine jv_istore (x := q3.1) (L' := [some (.ref 62), some (.ref 0), some (.ref 35), some (.ref 61), some (.int v4), some (.int q3.1), none]) (pc' := 291) hE dL_law_289 rfl (by decide) rfl rfl ?_
      refine jv_aload_n (x := 35) (pc' := 292) hE dL_law_291 rfl 2 rfl rfl ?_
      refine jv_aload_n (x := 62) (pc' := 293) hE dL_law_292 rfl 0 rfl rfl ?_
      refine jv_iload (x := v4) (pc' := 295) hE dL_law_293 rfl rfl ?_
      refine jv_iconst (v := (1 : Int32)) (pc' := 296) hE dL_law_295 rfl (by decide) ?_
      refine jv_iadd (x := v4) (y := (1 : Int32)) (pc' := 297) hE dL_law_296 rfl ?_
      by_cases c4 : jv_ck (v4 + (1 : Int32)) N = true
      · rw [if_pos c4] at h
        refine jv_sld (pc' := 298) hE hS dL_law_297 rfl (jv_ck_in c4) ?_
        show jv_V (jv_E1 E) 298 [some (.ref 62), some (.ref 0), some (.ref 35), some (.ref 61), some (.int v4), some (.int q3.1), none] [.int (xs (v4 + (1 : Int32)).toNatClampNeg), .ref 35] q3.2
        refine jv_aload_n (x := 62) (pc' := 299) hE dL_law_298 rfl 0 rfl rfl ?_
        refine jv_iload (x := v4) (pc' := 301) hE dL_law_299 rfl rfl ?_
        refine jv_iconst (v := (2 : Int32)) (pc' := 302) hE dL_law_301 rfl (by decide) ?_
        refine jv_iadd (x := v4) (y := (2 : Int32)) (pc' := 303) hE dL_law_302 rfl ?_
        by_cases c5 : jv_ck (v4 + (2 : Int32)) N = true
        · rw [if_pos c5] at h
          refine jv_sld (pc' := 304) hE hS dL_law_303 rfl (jv_ck_in c5) ?_
          show jv_V (jv_E1 E) 304 [some (.ref 62), some (.ref 0), some (.ref 35), some (.ref 61), some (.int v4), some (.int q3.1), none] [.int (xs (v4 + (2 : Int32)).toNatClampNeg), .int (xs (v4 + (1 : Int32)).toNatClampNeg), .ref 35] q3.2
          obtain ⟨q6, hq6, h⟩ := jv_bd_some h
          refine jv_callV (pc' := 307) (o := some (.int q6.1)) (σ' := q6.2) hE dL_law_304 rfl lV_L_114 (ok_X8_setLength hq6) rfl rfl rfl (by decide) rfl (Nat.le_of_ble_eq_true rfl) ?_
          show jv_V (jv_E1 E) 307 [some (.ref 62), some (.ref 0), some (.ref 35), some (.ref 61), some (.int v4), some (.int q3.1), none] [.int q6.1] q6.2
          refine jv_istore (x := q6.1) (L' := [some (.ref 62), some (.ref 0), some (.ref 35), some (.ref 61), some (.int v4), some (.int q3.1), some (.int q6.1)]) (pc' := 309) hE dL_law_307 rfl (by decide) rfl rfl ?_
          refine jv_aload_n (x := 35) (pc' := 310) hE dL_law_309 rfl 2 rfl rfl ?_
          refine jv_callV (pc' := 313) (o := some (.int (f_X8_thrown q6.2))) (σ' := q6.2) hE dL_law_310 rfl lV_L_104 (ok_X8_thrown rfl) rfl rfl rfl (by decide) rfl (Nat.le_of_ble_eq_true rfl) ?_
          show jv_V (jv_E1 E) 313 [some (.ref 62), some (.ref 0), some (.ref 35), some (.ref 61), some (.int v4), some (.int q3.1), some (.int q6.1)] [.int (f_X8_thrown q6.2)] q6.2
          refine jv_iload (x := q3.1) (pc' := 315) hE dL_law_313 rfl rfl ?_
          refine jv_icmp_eq (x := (f_X8_thrown q6.2)) (y := q3.1) (tgt := 320) (pc' := 318) hE dL_law_315 (by decide) rfl (fun c7 => ?_) (fun c7 => ?_)
          · rw [if_pos c7] at h
            refine jv_iload (x := q3.1) (pc' := 322) hE dL_law_320 rfl rfl ?_
            refine jv_if_ne (x := q3.1) (tgt := 337) (pc' := 325) hE dL_law_322 (by decide) rfl (fun c8 => ?_) (fun c8 => ?_)
            · rw [if_neg c8] at h
              refine jv_goto (tgt := 1620) hE dL_law_337 (by decide) ?_
              cases h
              exact jv_forget [true, true, true, true, true, false, false] hk
            · rw [if_pos c8] at h
              refine jv_aload_n (x := 61) (pc' := 326) hE dL_law_325 rfl 3 rfl rfl ?_
              refine jv_iconst (v := (0 : Int32)) (pc' := 327) hE dL_law_326 rfl (by decide) ?_
              by_cases c9 : jv_ck (0 : Int32) 1 = true
              · rw [if_pos c9] at h
                refine jv_lald (pc' := 328) hE dL_law_327 rfl rfl (jv_ck_in c9) ?_
                show jv_V (jv_E1 E) 328 [some (.ref 62), some (.ref 0), some (.ref 35), some (.ref 61), some (.int v4), some (.int q3.1), some (.int q6.1)] [.long (q6.2.2 61 (0 : Int32).toNatClampNeg)] q6.2
                refine jv_iload (x := q6.1) (pc' := 330) hE dL_law_328 rfl rfl ?_
                refine jv_i2l (x := q6.1) (pc' := 331) hE dL_law_330 rfl ?_
                refine jv_lcmp (x := (q6.2.2 61 (0 : Int32).toNatClampNeg)) (y := q6.1.toInt64) (pc' := 332) hE dL_law_331 rfl ?_
                refine jv_if_eq (x := (lg_cmp (q6.2.2 61 (0 : Int32).toNatClampNeg) q6.1.toInt64)) (tgt := 337) (pc' := 335) hE dL_law_332 (by decide) rfl (fun c10 => ?_) (fun c10 => ?_)
                · rw [if_pos c10] at h
                  refine jv_goto (tgt := 1620) hE dL_law_337 (by decide) ?_
                  cases h
                  exact jv_forget [true, true, true, true, true, false, false] hk
                · rw [if_neg c10] at h
                  refine jv_iconst (v := (0 : Int32)) (pc' := 336) hE dL_law_335 rfl (by decide) ?_
                  cases h
              · rw [if_neg c9] at h; cases h
          · rw [if_neg c7] at h
            refine jv_iconst (v := (0 : Int32)) (pc' := 319) hE dL_law_318 rfl (by decide) ?_
            cases h
        · rw [if_neg c5] at h; cases h
      · rw [if_neg c4] at h; cases h
    · rw [if_neg c2] at h; cases h
  · rw [if_neg c1] at h; cases h
noncomputable def f_L_case3 (N : Nat) (xs : Nat → Int32) (v4 : Int32) (σ : jv_S) : Option jv_S := if jv_ck (v4 + (1 : Int32)) N = true then (jv_bd (f_L_toggleEdge σ (xs (v4 + (1 : Int32)).toNatClampNeg)) (fun q2 => if jv_ck (v4 + (1 : Int32)) N = true then (jv_bd (f_X8_toggleEdge q2.2 (xs (v4 + (1 : Int32)).toNatClampNeg)) (fun q4 => if (f_X8_thrown q4.2) = q2.1 then (if q2.1 = 0 then (if jv_ck (0 : Int32) 1 = true then (jv_lt (if q4.1 = true then ((1 : Int64)) else ((0 : Int64))) (fun q9 => if (lg_cmp (q4.2.2 61 (0 : Int32).toNatClampNeg) q9) = 0 then (some q4.2) else (none))) else none) else (some q4.2)) else (none))) else none)) else none
set_option maxRecDepth 100000 in
set_option maxHeartbeats 4000000 in
theorem lc_3 {E : jv_E} {N : Nat} {xs : Nat → Int32} (hl0 : (jv_l E).stackTraces = false) (hE : jv_Cx E RL cL_law 7 21) (hR : jv_rc E 1) (hS : jv_Sc E N xs) {v4 : Int32} {σ τ : jv_S} (h : f_L_case3 N xs v4 σ = some τ) (hk : jv_V (jv_E1 E) 1620 [some (.ref 62), some (.ref 0), some (.ref 35), some (.ref 61), some (.int v4), none, none] [] τ) : jv_V E 340 [some (.ref 62), some (.ref 0), some (.ref 35), some (.ref 61), some (.int v4), none, none] [] σ := by
  unfold f_L_case3 at h
  refine jv_aload_n (x := 0) (pc' := 341) hE dL_law_340 rfl 1 rfl rfl ?_
  refine jv_aload_n (x := 62) (pc' := 342) hE dL_law_341 rfl 0 rfl rfl ?_
  refine jv_iload (x := v4) (pc' := 344) hE dL_law_342 rfl rfl ?_
  refine jv_iconst (v := (1 : Int32)) (pc' := 345) hE dL_law_344 rfl (by decide) ?_
  refine jv_iadd (x := v4) (y := (1 : Int32)) (pc' := 346) hE dL_law_345 rfl ?_
  by_cases c1 : jv_ck (v4 + (1 : Int32)) N = true
  · rw [if_pos c1] at h
    refine jv_sld (pc' := 347) hE hS dL_law_346 rfl (jv_ck_in c1) ?_
    show jv_V E 347 [some (.ref 62), some (.ref 0), some (.ref 35), some (.ref 61), some (.int v4), none, none] [.int (xs (v4 + (1 : Int32)).toNatClampNeg), .ref 0] σ
    refine jv_aload_n (x := 61) (pc' := 348) hE dL_law_347 rfl 3 rfl rfl ?_
    obtain ⟨q2, hq2, h⟩ := jv_bd_some h
    refine jv_callW (pc' := 351) hE hR dL_law_348 rfl lK_L_115 (ok_L_toggleEdge hl0 hq2) rfl (by decide) rfl (Nat.le_of_ble_eq_true rfl) ?_
    show jv_V (jv_E1 E) 351 [some (.ref 62), some (.ref 0), some (.ref 35), some (.ref 61), some (.int v4), none, none] [.int q2.1] q2.2
    have hE := jv_Cx1 hE hR
    have hS := jv_Sc1 hS
    refine jv_istore (x := q2.1) (L' := [some (.ref 62), some (.ref 0), some (.ref 35), some (.ref 61), some (.int v4), some (.int q2.1), none]) (pc' := 353) hE dL_law_351 rfl (by decide) rfl rfl ?_
    refine jv_aload_n (x := 35) (pc' := 354) hE dL_law_353 rfl 2 rfl rfl ?_
    refine jv_aload_n (x := 62) (pc' := 355) hE dL_law_354 rfl 0 rfl rfl ?_
    refine jv_iload (x := v4) (pc' := 357) hE dL_law_355 rfl rfl ?_
    refine jv_iconst (v := (1 : Int32)) (pc' := 358) hE dL_law_357 rfl (by decide) ?_
    refine jv_iadd (x := v4) (y := (1 : Int32)) (pc' := 359) hE dL_law_358 rfl ?_
    by_cases c3 : jv_ck (v4 + (1 : Int32)) N = true
    · rw [if_pos c3] at h
      refine jv_sld (pc' := 360) hE hS dL_law_359 rfl (jv_ck_in c3) ?_
      show jv_V (jv_E1 E) 360 [some (.ref 62), some (.ref 0), some (.ref 35), some (.ref 61), some (.int v4), some (.int q2.1), none] [.int (xs (v4 + (1 : Int32)).toNatClampNeg), .ref 35] q2.2
      obtain ⟨q4, hq4, h⟩ := jv_bd_some h
      refine jv_callV (pc' := 363) (o := some (.int (jv_b q4.1))) (σ' := q4.2) hE dL_law_360 rfl lV_L_118 (ok_X8_toggleEdge hq4) rfl rfl rfl (by decide) rfl (Nat.le_of_ble_eq_true rfl) ?_
      show jv_V (jv_E1 E) 363 [some (.ref 62), some (.ref 0), some (.ref 35), some (.ref 61), some (.int v4), some (.int q2.1), none] [.int (jv_b q4.1)] q4.2
      refine jv_istore (x := (jv_b q4.1)) (L' := [some (.ref 62), some (.ref 0), some (.ref 35), some (.ref 61), some (.int v4), some (.int q2.1), some (.int (jv_b q4.1))]) (pc' := 365) hE dL_law_363 rfl (by decide) rfl rfl ?_
      refine jv_aload_n (x := 35) (pc' := 366) hE dL_law_365 rfl 2 rfl rfl ?_
      refine jv_callV (pc' := 369) (o := some (.int (f_X8_thrown q4.2))) (σ' := q4.2) hE dL_law_366 rfl lV_L_104 (ok_X8_thrown rfl) rfl rfl rfl (by decide) rfl (Nat.le_of_ble_eq_true rfl) ?_
      show jv_V (jv_E1 E) 369 [some (.ref 62), some (.ref 0), some (.ref 35), some (.ref 61), some (.int v4), some (.int q2.1), some (.int (jv_b q4.1))] [.int (f_X8_thrown q4.2)] q4.2
      refine jv_iload (x := q2.1) (pc' := 371) hE dL_law_369 rfl rfl ?_
      refine jv_icmp_eq (x := (f_X8_thrown q4.2)) (y := q2.1) (tgt := 376) (pc' := 374) hE dL_law_371 (by decide) rfl (fun c5 => ?_) (fun c5 => ?_)
      · rw [if_pos c5] at h
        refine jv_iload (x := q2.1) (pc' := 378) hE dL_law_376 rfl rfl ?_
        refine jv_if_ne (x := q2.1) (tgt := 400) (pc' := 381) hE dL_law_378 (by decide) rfl (fun c6 => ?_) (fun c6 => ?_)
        · rw [if_neg c6] at h
          refine jv_goto (tgt := 1620) hE dL_law_400 (by decide) ?_
          cases h
          exact jv_forget [true, true, true, true, true, false, false] hk
        · rw [if_pos c6] at h
          refine jv_aload_n (x := 61) (pc' := 382) hE dL_law_381 rfl 3 rfl rfl ?_
          refine jv_iconst (v := (0 : Int32)) (pc' := 383) hE dL_law_382 rfl (by decide) ?_
          by_cases c7 : jv_ck (0 : Int32) 1 = true
          · rw [if_pos c7] at h
            refine jv_lald (pc' := 384) hE dL_law_383 rfl rfl (jv_ck_in c7) ?_
            show jv_V (jv_E1 E) 384 [some (.ref 62), some (.ref 0), some (.ref 35), some (.ref 61), some (.int v4), some (.int q2.1), some (.int (jv_b q4.1))] [.long (q4.2.2 61 (0 : Int32).toNatClampNeg)] q4.2
            refine jv_iload (x := (jv_b q4.1)) (pc' := 386) hE dL_law_384 rfl rfl ?_
            obtain ⟨q9, hq9, h⟩ := jv_lt_eq h
            have kq9 : jv_V (jv_E1 E) 394 [some (.ref 62), some (.ref 0), some (.ref 35), some (.ref 61), some (.int v4), none, none] [.long q9, .long (q4.2.2 61 (0 : Int32).toNatClampNeg)] q4.2 := by
              refine jv_lcmp (x := (q4.2.2 61 (0 : Int32).toNatClampNeg)) (y := q9) (pc' := 395) hE dL_law_394 rfl ?_
              refine jv_if_eq (x := (lg_cmp (q4.2.2 61 (0 : Int32).toNatClampNeg) q9)) (tgt := 400) (pc' := 398) hE dL_law_395 (by decide) rfl (fun c10 => ?_) (fun c10 => ?_)
              · rw [if_pos c10] at h
                refine jv_goto (tgt := 1620) hE dL_law_400 (by decide) ?_
                cases h
                exact jv_forget [true, true, true, true, true, false, false] hk
              · rw [if_neg c10] at h
                refine jv_iconst (v := (0 : Int32)) (pc' := 399) hE dL_law_398 rfl (by decide) ?_
                cases h
            refine jv_if_eq (x := (jv_b q4.1)) (tgt := 393) (pc' := 389) hE dL_law_386 (by decide) rfl (fun c8 => ?_) (fun c8 => ?_)
            · have c8 := jv_b0 c8
              rw [if_neg c8] at hq9
              refine jv_lconst (v := (0 : Int64)) (pc' := 394) hE dL_law_393 rfl (by decide) ?_
              cases hq9
              exact jv_forget [true, true, true, true, true, false, false] kq9
            · have c8 := jv_b1 c8
              rw [if_pos c8] at hq9
              refine jv_lconst (v := (1 : Int64)) (pc' := 390) hE dL_law_389 rfl (by decide) ?_
              refine jv_goto (tgt := 394) hE dL_law_390 (by decide) ?_
              cases hq9
              exact jv_forget [true, true, true, true, true, false, false] kq9
          · rw [if_neg c7] at h; cases h
      · rw [if_neg c5] at h
        refine jv_iconst (v := (0 : Int32)) (pc' := 375) hE dL_law_374 rfl (by decide) ?_
        cases h
    · rw [if_neg c3] at h; cases h
  · rw [if_neg c1] at h; cases h
noncomputable def f_L_case4 (N : Nat) (xs : Nat → Int32) (v4 : Int32) (σ : jv_S) : Option jv_S := if jv_ck (v4 + (1 : Int32)) N = true then (jv_bd (f_L_toggleNode σ (xs (v4 + (1 : Int32)).toNatClampNeg)) (fun q2 => if jv_ck (v4 + (1 : Int32)) N = true then (jv_bd (f_X8_toggleNode q2.2 (xs (v4 + (1 : Int32)).toNatClampNeg)) (fun q4 => if (f_X8_thrown q4.2) = q2.1 then (if q2.1 = 0 then (if jv_ck (0 : Int32) 1 = true then (jv_lt (if q4.1 = true then ((1 : Int64)) else ((0 : Int64))) (fun q9 => if (lg_cmp (q4.2.2 61 (0 : Int32).toNatClampNeg) q9) = 0 then (some q4.2) else (none))) else none) else (some q4.2)) else (none))) else none)) else none
set_option maxRecDepth 100000 in
set_option maxHeartbeats 4000000 in
theorem lc_4 {E : jv_E} {N : Nat} {xs : Nat → Int32} (hl0 : (jv_l E).stackTraces = false) (hE : jv_Cx E RL cL_law 7 21) (hR : jv_rc E 1) (hS : jv_Sc E N xs) {v4 : Int32} {σ τ : jv_S} (h : f_L_case4 N xs v4 σ = some τ) (hk : jv_V (jv_E1 E) 1620 [some (.ref 62), some (.ref 0), some (.ref 35), some (.ref 61), some (.int v4), none, none] [] τ) : jv_V E 403 [some (.ref 62), some (.ref 0), some (.ref 35), some (.ref 61), some (.int v4), none, none] [] σ := by
  unfold f_L_case4 at h
  refine jv_aload_n (x := 0) (pc' := 404) hE dL_law_403 rfl 1 rfl rfl ?_
  refine jv_aload_n (x := 62) (pc' := 405) hE dL_law_404 rfl 0 rfl rfl ?_
  refine jv_iload (x := v4) (pc' := 407) hE dL_law_405 rfl rfl ?_
  refine jv_iconst (v := (1 : Int32)) (pc' := 408) hE dL_law_407 rfl (by decide) ?_
  refine jv_iadd (x := v4) (y := (1 : Int32)) (pc' := 409) hE dL_law_408 rfl ?_
  by_cases c1 : jv_ck (v4 + (1 : Int32)) N = true
  · rw [if_pos c1] at h
    refine jv_sld (pc' := 410) hE hS dL_law_409 rfl (jv_ck_in c1) ?_
    show jv_V E 410 [some (.ref 62), some (.ref 0), some (.ref 35), some (.ref 61), some (.int v4), none, none] [.int (xs (v4 + (1 : Int32)).toNatClampNeg), .ref 0] σ
    refine jv_aload_n (x := 61) (pc' := 411) hE dL_law_410 rfl 3 rfl rfl ?_
    obtain ⟨q2, hq2, h⟩ := jv_bd_some h
    refine jv_callW (pc' := 414) hE hR dL_law_411 rfl lK_L_119 (ok_L_toggleNode hl0 hq2) rfl (by decide) rfl (Nat.le_of_ble_eq_true rfl) ?_
    show jv_V (jv_E1 E) 414 [some (.ref 62), some (.ref 0), some (.ref 35), some (.ref 61), some (.int v4), none, none] [.int q2.1] q2.2
    have hE := jv_Cx1 hE hR
    have hS := jv_Sc1 hS
    refine jv_istore (x := q2.1) (L' := [some (.ref 62), some (.ref 0), some (.ref 35), some (.ref 61), some (.int v4), some (.int q2.1), none]) (pc' := 416) hE dL_law_414 rfl (by decide) rfl rfl ?_
    refine jv_aload_n (x := 35) (pc' := 417) hE dL_law_416 rfl 2 rfl rfl ?_
    refine jv_aload_n (x := 62) (pc' := 418) hE dL_law_417 rfl 0 rfl rfl ?_
    refine jv_iload (x := v4) (pc' := 420) hE dL_law_418 rfl rfl ?_
    refine jv_iconst (v := (1 : Int32)) (pc' := 421) hE dL_law_420 rfl (by decide) ?_
    refine jv_iadd (x := v4) (y := (1 : Int32)) (pc' := 422) hE dL_law_421 rfl ?_
    by_cases c3 : jv_ck (v4 + (1 : Int32)) N = true
    · rw [if_pos c3] at h
      refine jv_sld (pc' := 423) hE hS dL_law_422 rfl (jv_ck_in c3) ?_
      show jv_V (jv_E1 E) 423 [some (.ref 62), some (.ref 0), some (.ref 35), some (.ref 61), some (.int v4), some (.int q2.1), none] [.int (xs (v4 + (1 : Int32)).toNatClampNeg), .ref 35] q2.2
      obtain ⟨q4, hq4, h⟩ := jv_bd_some h
      refine jv_callV (pc' := 426) (o := some (.int (jv_b q4.1))) (σ' := q4.2) hE dL_law_423 rfl lV_L_121 (ok_X8_toggleNode hq4) rfl rfl rfl (by decide) rfl (Nat.le_of_ble_eq_true rfl) ?_
      show jv_V (jv_E1 E) 426 [some (.ref 62), some (.ref 0), some (.ref 35), some (.ref 61), some (.int v4), some (.int q2.1), none] [.int (jv_b q4.1)] q4.2
      refine jv_istore (x := (jv_b q4.1)) (L' := [some (.ref 62), some (.ref 0), some (.ref 35), some (.ref 61), some (.int v4), some (.int q2.1), some (.int (jv_b q4.1))]) (pc' := 428) hE dL_law_426 rfl (by decide) rfl rfl ?_
      refine jv_aload_n (x := 35) (pc' := 429) hE dL_law_428 rfl 2 rfl rfl ?_
      refine jv_callV (pc' := 432) (o := some (.int (f_X8_thrown q4.2))) (σ' := q4.2) hE dL_law_429 rfl lV_L_104 (ok_X8_thrown rfl) rfl rfl rfl (by decide) rfl (Nat.le_of_ble_eq_true rfl) ?_
      show jv_V (jv_E1 E) 432 [some (.ref 62), some (.ref 0), some (.ref 35), some (.ref 61), some (.int v4), some (.int q2.1), some (.int (jv_b q4.1))] [.int (f_X8_thrown q4.2)] q4.2
      refine jv_iload (x := q2.1) (pc' := 434) hE dL_law_432 rfl rfl ?_
      refine jv_icmp_eq (x := (f_X8_thrown q4.2)) (y := q2.1) (tgt := 439) (pc' := 437) hE dL_law_434 (by decide) rfl (fun c5 => ?_) (fun c5 => ?_)
      · rw [if_pos c5] at h
        refine jv_iload (x := q2.1) (pc' := 441) hE dL_law_439 rfl rfl ?_
        refine jv_if_ne (x := q2.1) (tgt := 463) (pc' := 444) hE dL_law_441 (by decide) rfl (fun c6 => ?_) (fun c6 => ?_)
        · rw [if_neg c6] at h
          refine jv_goto (tgt := 1620) hE dL_law_463 (by decide) ?_
          cases h
          exact jv_forget [true, true, true, true, true, false, false] hk
        · rw [if_pos c6] at h
          refine jv_aload_n (x := 61) (pc' := 445) hE dL_law_444 rfl 3 rfl rfl ?_
          refine jv_iconst (v := (0 : Int32)) (pc' := 446) hE dL_law_445 rfl (by decide) ?_
          by_cases c7 : jv_ck (0 : Int32) 1 = true
          · rw [if_pos c7] at h
            refine jv_lald (pc' := 447) hE dL_law_446 rfl rfl (jv_ck_in c7) ?_
            show jv_V (jv_E1 E) 447 [some (.ref 62), some (.ref 0), some (.ref 35), some (.ref 61), some (.int v4), some (.int q2.1), some (.int (jv_b q4.1))] [.long (q4.2.2 61 (0 : Int32).toNatClampNeg)] q4.2
            refine jv_iload (x := (jv_b q4.1)) (pc' := 449) hE dL_law_447 rfl rfl ?_
            obtain ⟨q9, hq9, h⟩ := jv_lt_eq h
            have kq9 : jv_V (jv_E1 E) 457 [some (.ref 62), some (.ref 0), some (.ref 35), some (.ref 61), some (.int v4), none, none] [.long q9, .long (q4.2.2 61 (0 : Int32).toNatClampNeg)] q4.2 := by
              refine jv_lcmp (x := (q4.2.2 61 (0 : Int32).toNatClampNeg)) (y := q9) (pc' := 458) hE dL_law_457 rfl ?_
              refine jv_if_eq (x := (lg_cmp (q4.2.2 61 (0 : Int32).toNatClampNeg) q9)) (tgt := 463) (pc' := 461) hE dL_law_458 (by decide) rfl (fun c10 => ?_) (fun c10 => ?_)
              · rw [if_pos c10] at h
                refine jv_goto (tgt := 1620) hE dL_law_463 (by decide) ?_
                cases h
                exact jv_forget [true, true, true, true, true, false, false] hk
              · rw [if_neg c10] at h
                refine jv_iconst (v := (0 : Int32)) (pc' := 462) hE dL_law_461 rfl (by decide) ?_
                cases h
            refine jv_if_eq (x := (jv_b q4.1)) (tgt := 456) (pc' := 452) hE dL_law_449 (by decide) rfl (fun c8 => ?_) (fun c8 => ?_)
            · have c8 := jv_b0 c8
              rw [if_neg c8] at hq9
              refine jv_lconst (v := (0 : Int64)) (pc' := 457) hE dL_law_456 rfl (by decide) ?_
              cases hq9
              exact jv_forget [true, true, true, true, true, false, false] kq9
            · have c8 := jv_b1 c8
              rw [if_pos c8] at hq9
              refine jv_lconst (v := (1 : Int64)) (pc' := 453) hE dL_law_452 rfl (by decide) ?_
              refine jv_goto (tgt := 457) hE dL_law_453 (by decide) ?_
              cases hq9
              exact jv_forget [true, true, true, true, true, false, false] kq9
          · rw [if_neg c7] at h; cases h
      · rw [if_neg c5] at h
        refine jv_iconst (v := (0 : Int32)) (pc' := 438) hE dL_law_437 rfl (by decide) ?_
        cases h
    · rw [if_neg c3] at h; cases h
  · rw [if_neg c1] at h; cases h
noncomputable def f_L_case5 (N : Nat) (xs : Nat → Int32) (v4 : Int32) (σ : jv_S) : Option jv_S := if jv_ck (v4 + (1 : Int32)) N = true then (if jv_ck (v4 + (2 : Int32)) N = true then (jv_bd (f_L_toggleTurn σ (xs (v4 + (1 : Int32)).toNatClampNeg) (xs (v4 + (2 : Int32)).toNatClampNeg)) (fun q3 => if jv_ck (v4 + (1 : Int32)) N = true then (if jv_ck (v4 + (2 : Int32)) N = true then (jv_bd (f_X8_toggleTurn q3.2 (xs (v4 + (1 : Int32)).toNatClampNeg) (xs (v4 + (2 : Int32)).toNatClampNeg)) (fun q6 => if (f_X8_thrown q6.2) = q3.1 then (if q3.1 = 0 then (if jv_ck (0 : Int32) 1 = true then (jv_lt (if q6.1 = true then ((1 : Int64)) else ((0 : Int64))) (fun q11 => if (lg_cmp (q6.2.2 61 (0 : Int32).toNatClampNeg) q11) = 0 then (some q6.2) else (none))) else none) else (some q6.2)) else (none))) else none) else none)) else none) else none
set_option maxRecDepth 100000 in
set_option maxHeartbeats 4000000 in
theorem lc_5 {E : jv_E} {N : Nat} {xs : Nat → Int32} (hl0 : (jv_l E).stackTraces = false) (hE : jv_Cx E RL cL_law 7 21) (hR : jv_rc E 1) (hS : jv_Sc E N xs) {v4 : Int32} {σ τ : jv_S} (h : f_L_case5 N xs v4 σ = some τ) (hk : jv_V (jv_E1 E) 1620 [some (.ref 62), some (.ref 0), some (.ref 35), some (.ref 61), some (.int v4), none, none] [] τ) : jv_V E 466 [some (.ref 62), some (.ref 0), some (.ref 35), some (.ref 61), some (.int v4), none, none] [] σ := by
  unfold f_L_case5 at h
  refine jv_aload_n (x := 0) (pc' := 467) hE dL_law_466 rfl 1 rfl rfl ?_
  refine jv_aload_n (x := 62) (pc' := 468) hE dL_law_467 rfl 0 rfl rfl ?_
  refine jv_iload (x := v4) (pc' := 470) hE dL_law_468 rfl rfl ?_
  refine jv_iconst (v := (1 : Int32)) (pc' := 471) hE dL_law_470 rfl (by decide) ?_
  refine jv_iadd (x := v4) (y := (1 : Int32)) (pc' := 472) hE dL_law_471 rfl ?_
  by_cases c1 : jv_ck (v4 + (1 : Int32)) N = true
  · rw [if_pos c1] at h
    refine jv_sld (pc' := 473) hE hS dL_law_472 rfl (jv_ck_in c1) ?_
    show jv_V E 473 [some (.ref 62), some (.ref 0), some (.ref 35), some (.ref 61), some (.int v4), none, none] [.int (xs (v4 + (1 : Int32)).toNatClampNeg), .ref 0] σ
    refine jv_aload_n (x := 62) (pc' := 474) hE dL_law_473 rfl 0 rfl rfl ?_
    refine jv_iload (x := v4) (pc' := 476) hE dL_law_474 rfl rfl ?_
    refine jv_iconst (v := (2 : Int32)) (pc' := 477) hE dL_law_476 rfl (by decide) ?_
    refine jv_iadd (x := v4) (y := (2 : Int32)) (pc' := 478) hE dL_law_477 rfl ?_
    by_cases c2 : jv_ck (v4 + (2 : Int32)) N = true
    · rw [if_pos c2] at h
      refine jv_sld (pc' := 479) hE hS dL_law_478 rfl (jv_ck_in c2) ?_
      show jv_V E 479 [some (.ref 62), some (.ref 0), some (.ref 35), some (.ref 61), some (.int v4), none, none] [.int (xs (v4 + (2 : Int32)).toNatClampNeg), .int (xs (v4 + (1 : Int32)).toNatClampNeg), .ref 0] σ
      refine jv_aload_n (x := 61) (pc' := 480) hE dL_law_479 rfl 3 rfl rfl ?_
      obtain ⟨q3, hq3, h⟩ := jv_bd_some h
      refine jv_callW (pc' := 483) hE hR dL_law_480 rfl lK_L_122 (ok_L_toggleTurn hl0 hq3) rfl (by decide) rfl (Nat.le_of_ble_eq_true rfl) ?_
      show jv_V (jv_E1 E) 483 [some (.ref 62), some (.ref 0), some (.ref 35), some (.ref 61), some (.int v4), none, none] [.int q3.1] q3.2
      have hE := jv_Cx1 hE hR
      have hS := jv_Sc1 hS
      refine jv_istore (x := q3.1) (L' := [some (.ref 62), some (.ref 0), some (.ref 35), some (.ref 61), some (.int v4), some (.int q3.1), none]) (pc' := 485) hE dL_law_483 rfl (by decide) rfl rfl ?_
      refine jv_aload_n (x := 35) (pc' := 486) hE dL_law_485 rfl 2 rfl rfl ?_
      refine jv_aload_n (x := 62) (pc' := 487) hE dL_law_486 rfl 0 rfl rfl ?_
      refine jv_iload (x := v4) (pc' := 489) hE dL_law_487 rfl rfl ?_
      refine jv_iconst (v := (1 : Int32)) (pc' := 490) hE dL_law_489 rfl (by decide) ?_
      refine jv_iadd (x := v4) (y := (1 : Int32)) (pc' := 491) hE dL_law_490 rfl ?_
      by_cases c4 : jv_ck (v4 + (1 : Int32)) N = true
      · rw [if_pos c4] at h
        refine jv_sld (pc' := 492) hE hS dL_law_491 rfl (jv_ck_in c4) ?_
        show jv_V (jv_E1 E) 492 [some (.ref 62), some (.ref 0), some (.ref 35), some (.ref 61), some (.int v4), some (.int q3.1), none] [.int (xs (v4 + (1 : Int32)).toNatClampNeg), .ref 35] q3.2
        refine jv_aload_n (x := 62) (pc' := 493) hE dL_law_492 rfl 0 rfl rfl ?_
        refine jv_iload (x := v4) (pc' := 495) hE dL_law_493 rfl rfl ?_
        refine jv_iconst (v := (2 : Int32)) (pc' := 496) hE dL_law_495 rfl (by decide) ?_
        refine jv_iadd (x := v4) (y := (2 : Int32)) (pc' := 497) hE dL_law_496 rfl ?_
        by_cases c5 : jv_ck (v4 + (2 : Int32)) N = true
        · rw [if_pos c5] at h
          refine jv_sld (pc' := 498) hE hS dL_law_497 rfl (jv_ck_in c5) ?_
          show jv_V (jv_E1 E) 498 [some (.ref 62), some (.ref 0), some (.ref 35), some (.ref 61), some (.int v4), some (.int q3.1), none] [.int (xs (v4 + (2 : Int32)).toNatClampNeg), .int (xs (v4 + (1 : Int32)).toNatClampNeg), .ref 35] q3.2
          obtain ⟨q6, hq6, h⟩ := jv_bd_some h
          refine jv_callV (pc' := 501) (o := some (.int (jv_b q6.1))) (σ' := q6.2) hE dL_law_498 rfl lV_L_124 (ok_X8_toggleTurn hq6) rfl rfl rfl (by decide) rfl (Nat.le_of_ble_eq_true rfl) ?_
          show jv_V (jv_E1 E) 501 [some (.ref 62), some (.ref 0), some (.ref 35), some (.ref 61), some (.int v4), some (.int q3.1), none] [.int (jv_b q6.1)] q6.2
          refine jv_istore (x := (jv_b q6.1)) (L' := [some (.ref 62), some (.ref 0), some (.ref 35), some (.ref 61), some (.int v4), some (.int q3.1), some (.int (jv_b q6.1))]) (pc' := 503) hE dL_law_501 rfl (by decide) rfl rfl ?_
          refine jv_aload_n (x := 35) (pc' := 504) hE dL_law_503 rfl 2 rfl rfl ?_
          refine jv_callV (pc' := 507) (o := some (.int (f_X8_thrown q6.2))) (σ' := q6.2) hE dL_law_504 rfl lV_L_104 (ok_X8_thrown rfl) rfl rfl rfl (by decide) rfl (Nat.le_of_ble_eq_true rfl) ?_
          show jv_V (jv_E1 E) 507 [some (.ref 62), some (.ref 0), some (.ref 35), some (.ref 61), some (.int v4), some (.int q3.1), some (.int (jv_b q6.1))] [.int (f_X8_thrown q6.2)] q6.2
          refine jv_iload (x := q3.1) (pc' := 509) hE dL_law_507 rfl rfl ?_
          refine jv_icmp_eq (x := (f_X8_thrown q6.2)) (y := q3.1) (tgt := 514) (pc' := 512) hE dL_law_509 (by decide) rfl (fun c7 => ?_) (fun c7 => ?_)
          · rw [if_pos c7] at h
            refine jv_iload (x := q3.1) (pc' := 516) hE dL_law_514 rfl rfl ?_
            refine jv_if_ne (x := q3.1) (tgt := 538) (pc' := 519) hE dL_law_516 (by decide) rfl (fun c8 => ?_) (fun c8 => ?_)
            · rw [if_neg c8] at h
              refine jv_goto (tgt := 1620) hE dL_law_538 (by decide) ?_
              cases h
              exact jv_forget [true, true, true, true, true, false, false] hk
            · rw [if_pos c8] at h
              refine jv_aload_n (x := 61) (pc' := 520) hE dL_law_519 rfl 3 rfl rfl ?_
              refine jv_iconst (v := (0 : Int32)) (pc' := 521) hE dL_law_520 rfl (by decide) ?_
              by_cases c9 : jv_ck (0 : Int32) 1 = true
              · rw [if_pos c9] at h
                refine jv_lald (pc' := 522) hE dL_law_521 rfl rfl (jv_ck_in c9) ?_
                show jv_V (jv_E1 E) 522 [some (.ref 62), some (.ref 0), some (.ref 35), some (.ref 61), some (.int v4), some (.int q3.1), some (.int (jv_b q6.1))] [.long (q6.2.2 61 (0 : Int32).toNatClampNeg)] q6.2
                refine jv_iload (x := (jv_b q6.1)) (pc' := 524) hE dL_law_522 rfl rfl ?_
                obtain ⟨q11, hq11, h⟩ := jv_lt_eq h
                have kq11 : jv_V (jv_E1 E) 532 [some (.ref 62), some (.ref 0), some (.ref 35), some (.ref 61), some (.int v4), none, none] [.long q11, .long (q6.2.2 61 (0 : Int32).toNatClampNeg)] q6.2 := by
                  refine jv_lcmp (x := (q6.2.2 61 (0 : Int32).toNatClampNeg)) (y := q11) (pc' := 533) hE dL_law_532 rfl ?_
                  refine jv_if_eq (x := (lg_cmp (q6.2.2 61 (0 : Int32).toNatClampNeg) q11)) (tgt := 538) (pc' := 536) hE dL_law_533 (by decide) rfl (fun c12 => ?_) (fun c12 => ?_)
                  · rw [if_pos c12] at h
                    refine jv_goto (tgt := 1620) hE dL_law_538 (by decide) ?_
                    cases h
                    exact jv_forget [true, true, true, true, true, false, false] hk
                  · rw [if_neg c12] at h
                    refine jv_iconst (v := (0 : Int32)) (pc' := 537) hE dL_law_536 rfl (by decide) ?_
                    cases h
                refine jv_if_eq (x := (jv_b q6.1)) (tgt := 531) (pc' := 527) hE dL_law_524 (by decide) rfl (fun c10 => ?_) (fun c10 => ?_)
                · have c10 := jv_b0 c10
                  rw [if_neg c10] at hq11
                  refine jv_lconst (v := (0 : Int64)) (pc' := 532) hE dL_law_531 rfl (by decide) ?_
                  cases hq11
                  exact jv_forget [true, true, true, true, true, false, false] kq11
                · have c10 := jv_b1 c10
                  rw [if_pos c10] at hq11
                  refine jv_lconst (v := (1 : Int64)) (pc' := 528) hE dL_law_527 rfl (by decide) ?_
                  refine jv_goto (tgt := 532) hE dL_law_528 (by decide) ?_
                  cases hq11
                  exact jv_forget [true, true, true, true, true, false, false] kq11
              · rw [if_neg c9] at h; cases h
          · rw [if_neg c7] at h
            refine jv_iconst (v := (0 : Int32)) (pc' := 513) hE dL_law_512 rfl (by decide) ?_
            cases h
        · rw [if_neg c5] at h; cases h
      · rw [if_neg c4] at h; cases h
    · rw [if_neg c2] at h; cases h
  · rw [if_neg c1] at h; cases h
noncomputable def f_L_case6 (N : Nat) (xs : Nat → Int32) (v4 : Int32) (σ : jv_S) : Option jv_S := jv_lt (f_X8_nodes σ) (fun q1 => if (f_X7_nodes σ) = q1.1 then (some q1.2) else (none))
set_option maxRecDepth 100000 in
set_option maxHeartbeats 4000000 in
theorem lc_6 {E : jv_E} {N : Nat} {xs : Nat → Int32} (hl0 : (jv_l E).stackTraces = false) (hE : jv_Cx E RL cL_law 7 21) (hR : jv_rc E 1) (hS : jv_Sc E N xs) {v4 : Int32} {σ τ : jv_S} (h : f_L_case6 N xs v4 σ = some τ) (hk : jv_V (jv_E1 E) 1620 [some (.ref 62), some (.ref 0), some (.ref 35), some (.ref 61), some (.int v4), none, none] [] τ) : jv_V E 541 [some (.ref 62), some (.ref 0), some (.ref 35), some (.ref 61), some (.int v4), none, none] [] σ := by
  unfold f_L_case6 at h
  refine jv_aload_n (x := 0) (pc' := 542) hE dL_law_541 rfl 1 rfl rfl ?_
  refine jv_callV (pc' := 545) (o := some (.int (f_X7_nodes σ))) (σ' := σ) hE dL_law_542 rfl lV_L_125 (ok_X7_nodes rfl) rfl rfl rfl (by decide) rfl (Nat.le_of_ble_eq_true rfl) ?_
  show jv_V E 545 [some (.ref 62), some (.ref 0), some (.ref 35), some (.ref 61), some (.int v4), none, none] [.int (f_X7_nodes σ)] σ
  refine jv_aload_n (x := 35) (pc' := 546) hE dL_law_545 rfl 2 rfl rfl ?_
  obtain ⟨q1, hq1, h⟩ := jv_lt_eq h
  refine jv_callV (pc' := 549) (o := some (.int q1.1)) (σ' := q1.2) hE dL_law_546 rfl lV_L_128 (ok_X8_nodes hq1) rfl rfl rfl (by decide) rfl (Nat.le_of_ble_eq_true rfl) ?_
  show jv_V E 549 [some (.ref 62), some (.ref 0), some (.ref 35), some (.ref 61), some (.int v4), none, none] [.int q1.1, .int (f_X7_nodes σ)] q1.2
  refine jv_icmp_eq (x := (f_X7_nodes σ)) (y := q1.1) (tgt := 1620) (pc' := 552) hE dL_law_549 (by decide) rfl (fun c2 => ?_) (fun c2 => ?_)
  · rw [if_pos c2] at h
    cases h
    exact jv_forget [true, true, true, true, true, false, false] (jv_wide hk)
  · rw [if_neg c2] at h
    refine jv_iconst (v := (0 : Int32)) (pc' := 553) hE dL_law_552 rfl (by decide) ?_
    cases h
noncomputable def f_L_case7 (N : Nat) (xs : Nat → Int32) (v4 : Int32) (σ : jv_S) : Option jv_S := jv_lt (f_X8_edges σ) (fun q1 => if (f_X7_edges σ) = q1.1 then (some q1.2) else (none))
set_option maxRecDepth 100000 in
set_option maxHeartbeats 4000000 in
theorem lc_7 {E : jv_E} {N : Nat} {xs : Nat → Int32} (hl0 : (jv_l E).stackTraces = false) (hE : jv_Cx E RL cL_law 7 21) (hR : jv_rc E 1) (hS : jv_Sc E N xs) {v4 : Int32} {σ τ : jv_S} (h : f_L_case7 N xs v4 σ = some τ) (hk : jv_V (jv_E1 E) 1620 [some (.ref 62), some (.ref 0), some (.ref 35), some (.ref 61), some (.int v4), none, none] [] τ) : jv_V E 554 [some (.ref 62), some (.ref 0), some (.ref 35), some (.ref 61), some (.int v4), none, none] [] σ := by
  unfold f_L_case7 at h
  refine jv_aload_n (x := 0) (pc' := 555) hE dL_law_554 rfl 1 rfl rfl ?_
  refine jv_callV (pc' := 558) (o := some (.int (f_X7_edges σ))) (σ' := σ) hE dL_law_555 rfl lV_L_129 (ok_X7_edges rfl) rfl rfl rfl (by decide) rfl (Nat.le_of_ble_eq_true rfl) ?_
  show jv_V E 558 [some (.ref 62), some (.ref 0), some (.ref 35), some (.ref 61), some (.int v4), none, none] [.int (f_X7_edges σ)] σ
  refine jv_aload_n (x := 35) (pc' := 559) hE dL_law_558 rfl 2 rfl rfl ?_
  obtain ⟨q1, hq1, h⟩ := jv_lt_eq h
  refine jv_callV (pc' := 562) (o := some (.int q1.1)) (σ' := q1.2) hE dL_law_559 rfl lV_L_132 (ok_X8_edges hq1) rfl rfl rfl (by decide) rfl (Nat.le_of_ble_eq_true rfl) ?_
  show jv_V E 562 [some (.ref 62), some (.ref 0), some (.ref 35), some (.ref 61), some (.int v4), none, none] [.int q1.1, .int (f_X7_edges σ)] q1.2
  refine jv_icmp_eq (x := (f_X7_edges σ)) (y := q1.1) (tgt := 1620) (pc' := 565) hE dL_law_562 (by decide) rfl (fun c2 => ?_) (fun c2 => ?_)
  · rw [if_pos c2] at h
    cases h
    exact jv_forget [true, true, true, true, true, false, false] (jv_wide hk)
  · rw [if_neg c2] at h
    refine jv_iconst (v := (0 : Int32)) (pc' := 566) hE dL_law_565 rfl (by decide) ?_
    cases h
noncomputable def f_L_case8 (N : Nat) (xs : Nat → Int32) (v4 : Int32) (σ : jv_S) : Option jv_S := jv_bd (f_X8_usableEdges σ) (fun q1 => if (f_X7_usableEdges σ) = q1.1 then (some q1.2) else (none))
set_option maxRecDepth 100000 in
set_option maxHeartbeats 4000000 in
theorem lc_8 {E : jv_E} {N : Nat} {xs : Nat → Int32} (hl0 : (jv_l E).stackTraces = false) (hE : jv_Cx E RL cL_law 7 21) (hR : jv_rc E 1) (hS : jv_Sc E N xs) {v4 : Int32} {σ τ : jv_S} (h : f_L_case8 N xs v4 σ = some τ) (hk : jv_V (jv_E1 E) 1620 [some (.ref 62), some (.ref 0), some (.ref 35), some (.ref 61), some (.int v4), none, none] [] τ) : jv_V E 567 [some (.ref 62), some (.ref 0), some (.ref 35), some (.ref 61), some (.int v4), none, none] [] σ := by
  unfold f_L_case8 at h
  refine jv_aload_n (x := 0) (pc' := 568) hE dL_law_567 rfl 1 rfl rfl ?_
  refine jv_callV (pc' := 571) (o := some (.int (f_X7_usableEdges σ))) (σ' := σ) hE dL_law_568 rfl lV_L_133 (ok_X7_usableEdges rfl) rfl rfl rfl (by decide) rfl (Nat.le_of_ble_eq_true rfl) ?_
  show jv_V E 571 [some (.ref 62), some (.ref 0), some (.ref 35), some (.ref 61), some (.int v4), none, none] [.int (f_X7_usableEdges σ)] σ
  refine jv_aload_n (x := 35) (pc' := 572) hE dL_law_571 rfl 2 rfl rfl ?_
  obtain ⟨q1, hq1, h⟩ := jv_bd_some h
  refine jv_callV (pc' := 575) (o := some (.int q1.1)) (σ' := q1.2) hE dL_law_572 rfl lV_L_136 (ok_X8_usableEdges hq1) rfl rfl rfl (by decide) rfl (Nat.le_of_ble_eq_true rfl) ?_
  show jv_V E 575 [some (.ref 62), some (.ref 0), some (.ref 35), some (.ref 61), some (.int v4), none, none] [.int q1.1, .int (f_X7_usableEdges σ)] q1.2
  refine jv_icmp_eq (x := (f_X7_usableEdges σ)) (y := q1.1) (tgt := 1620) (pc' := 578) hE dL_law_575 (by decide) rfl (fun c2 => ?_) (fun c2 => ?_)
  · rw [if_pos c2] at h
    cases h
    exact jv_forget [true, true, true, true, true, false, false] (jv_wide hk)
  · rw [if_neg c2] at h
    refine jv_iconst (v := (0 : Int32)) (pc' := 579) hE dL_law_578 rfl (by decide) ?_
    cases h
noncomputable def f_L_case9 (N : Nat) (xs : Nat → Int32) (v4 : Int32) (σ : jv_S) : Option jv_S := if jv_ck (v4 + (1 : Int32)) N = true then (if jv_ck (v4 + (2 : Int32)) N = true then (jv_bd (f_L_distance σ (xs (v4 + (1 : Int32)).toNatClampNeg) (xs (v4 + (2 : Int32)).toNatClampNeg)) (fun q3 => if jv_ck (v4 + (1 : Int32)) N = true then (if jv_ck (v4 + (2 : Int32)) N = true then (jv_bd (f_X8_distance q3.2 (xs (v4 + (1 : Int32)).toNatClampNeg) (xs (v4 + (2 : Int32)).toNatClampNeg)) (fun q6 => if (f_X8_thrown q6.2) = q3.1 then (if q3.1 = 0 then (if jv_ck (0 : Int32) 1 = true then (if (lg_cmp (q6.2.2 61 (0 : Int32).toNatClampNeg) q6.1.toInt64) = 0 then (some q6.2) else (none)) else none) else (some q6.2)) else (none))) else none) else none)) else none) else none
set_option maxRecDepth 100000 in
set_option maxHeartbeats 4000000 in
theorem lc_9 {E : jv_E} {N : Nat} {xs : Nat → Int32} (hl0 : (jv_l E).stackTraces = false) (hE : jv_Cx E RL cL_law 7 21) (hR : jv_rc E 1) (hS : jv_Sc E N xs) {v4 : Int32} {σ τ : jv_S} (h : f_L_case9 N xs v4 σ = some τ) (hk : jv_V (jv_E1 E) 1620 [some (.ref 62), some (.ref 0), some (.ref 35), some (.ref 61), some (.int v4), none, none] [] τ) : jv_V E 580 [some (.ref 62), some (.ref 0), some (.ref 35), some (.ref 61), some (.int v4), none, none] [] σ := by
  unfold f_L_case9 at h
  refine jv_aload_n (x := 0) (pc' := 581) hE dL_law_580 rfl 1 rfl rfl ?_
  refine jv_aload_n (x := 62) (pc' := 582) hE dL_law_581 rfl 0 rfl rfl ?_
  refine jv_iload (x := v4) (pc' := 584) hE dL_law_582 rfl rfl ?_
  refine jv_iconst (v := (1 : Int32)) (pc' := 585) hE dL_law_584 rfl (by decide) ?_
  refine jv_iadd (x := v4) (y := (1 : Int32)) (pc' := 586) hE dL_law_585 rfl ?_
  by_cases c1 : jv_ck (v4 + (1 : Int32)) N = true
  · rw [if_pos c1] at h
    refine jv_sld (pc' := 587) hE hS dL_law_586 rfl (jv_ck_in c1) ?_
    show jv_V E 587 [some (.ref 62), some (.ref 0), some (.ref 35), some (.ref 61), some (.int v4), none, none] [.int (xs (v4 + (1 : Int32)).toNatClampNeg), .ref 0] σ
    refine jv_aload_n (x := 62) (pc' := 588) hE dL_law_587 rfl 0 rfl rfl ?_
    refine jv_iload (x := v4) (pc' := 590) hE dL_law_588 rfl rfl ?_
    refine jv_iconst (v := (2 : Int32)) (pc' := 591) hE dL_law_590 rfl (by decide) ?_
    refine jv_iadd (x := v4) (y := (2 : Int32)) (pc' := 592) hE dL_law_591 rfl ?_
    by_cases c2 : jv_ck (v4 + (2 : Int32)) N = true
    · rw [if_pos c2] at h
      refine jv_sld (pc' := 593) hE hS dL_law_592 rfl (jv_ck_in c2) ?_
      show jv_V E 593 [some (.ref 62), some (.ref 0), some (.ref 35), some (.ref 61), some (.int v4), none, none] [.int (xs (v4 + (2 : Int32)).toNatClampNeg), .int (xs (v4 + (1 : Int32)).toNatClampNeg), .ref 0] σ
      refine jv_aload_n (x := 61) (pc' := 594) hE dL_law_593 rfl 3 rfl rfl ?_
      obtain ⟨q3, hq3, h⟩ := jv_bd_some h
      refine jv_callW (pc' := 597) hE hR dL_law_594 rfl lK_L_137 (ok_L_distance hl0 hq3) rfl (by decide) rfl (Nat.le_of_ble_eq_true rfl) ?_
      show jv_V (jv_E1 E) 597 [some (.ref 62), some (.ref 0), some (.ref 35), some (.ref 61), some (.int v4), none, none] [.int q3.1] q3.2
      have hE := jv_Cx1 hE hR
      have hS := jv_Sc1 hS
      refine jv_istore (x := q3.1) (L' := [some (.ref 62), some (.ref 0), some (.ref 35), some (.ref 61), some (.int v4), some (.int q3.1), none]) (pc' := 599) hE dL_law_597 rfl (by decide) rfl rfl ?_
      refine jv_aload_n (x := 35) (pc' := 600) hE dL_law_599 rfl 2 rfl rfl ?_
      refine jv_aload_n (x := 62) (pc' := 601) hE dL_law_600 rfl 0 rfl rfl ?_
      refine jv_iload (x := v4) (pc' := 603) hE dL_law_601 rfl rfl ?_
      refine jv_iconst (v := (1 : Int32)) (pc' := 604) hE dL_law_603 rfl (by decide) ?_
      refine jv_iadd (x := v4) (y := (1 : Int32)) (pc' := 605) hE dL_law_604 rfl ?_
      by_cases c4 : jv_ck (v4 + (1 : Int32)) N = true
      · rw [if_pos c4] at h
        refine jv_sld (pc' := 606) hE hS dL_law_605 rfl (jv_ck_in c4) ?_
        show jv_V (jv_E1 E) 606 [some (.ref 62), some (.ref 0), some (.ref 35), some (.ref 61), some (.int v4), some (.int q3.1), none] [.int (xs (v4 + (1 : Int32)).toNatClampNeg), .ref 35] q3.2
        refine jv_aload_n (x := 62) (pc' := 607) hE dL_law_606 rfl 0 rfl rfl ?_
        refine jv_iload (x := v4) (pc' := 609) hE dL_law_607 rfl rfl ?_
        refine jv_iconst (v := (2 : Int32)) (pc' := 610) hE dL_law_609 rfl (by decide) ?_
        refine jv_iadd (x := v4) (y := (2 : Int32)) (pc' := 611) hE dL_law_610 rfl ?_
        by_cases c5 : jv_ck (v4 + (2 : Int32)) N = true
        · rw [if_pos c5] at h
          refine jv_sld (pc' := 612) hE hS dL_law_611 rfl (jv_ck_in c5) ?_
          show jv_V (jv_E1 E) 612 [some (.ref 62), some (.ref 0), some (.ref 35), some (.ref 61), some (.int v4), some (.int q3.1), none] [.int (xs (v4 + (2 : Int32)).toNatClampNeg), .int (xs (v4 + (1 : Int32)).toNatClampNeg), .ref 35] q3.2
          obtain ⟨q6, hq6, h⟩ := jv_bd_some h
          refine jv_callV (pc' := 615) (o := some (.int q6.1)) (σ' := q6.2) hE dL_law_612 rfl lV_L_139 (ok_X8_distance hq6) rfl rfl rfl (by decide) rfl (Nat.le_of_ble_eq_true rfl) ?_
          show jv_V (jv_E1 E) 615 [some (.ref 62), some (.ref 0), some (.ref 35), some (.ref 61), some (.int v4), some (.int q3.1), none] [.int q6.1] q6.2
          refine jv_istore (x := q6.1) (L' := [some (.ref 62), some (.ref 0), some (.ref 35), some (.ref 61), some (.int v4), some (.int q3.1), some (.int q6.1)]) (pc' := 617) hE dL_law_615 rfl (by decide) rfl rfl ?_
          refine jv_aload_n (x := 35) (pc' := 618) hE dL_law_617 rfl 2 rfl rfl ?_
          refine jv_callV (pc' := 621) (o := some (.int (f_X8_thrown q6.2))) (σ' := q6.2) hE dL_law_618 rfl lV_L_104 (ok_X8_thrown rfl) rfl rfl rfl (by decide) rfl (Nat.le_of_ble_eq_true rfl) ?_
          show jv_V (jv_E1 E) 621 [some (.ref 62), some (.ref 0), some (.ref 35), some (.ref 61), some (.int v4), some (.int q3.1), some (.int q6.1)] [.int (f_X8_thrown q6.2)] q6.2
          refine jv_iload (x := q3.1) (pc' := 623) hE dL_law_621 rfl rfl ?_
          refine jv_icmp_eq (x := (f_X8_thrown q6.2)) (y := q3.1) (tgt := 628) (pc' := 626) hE dL_law_623 (by decide) rfl (fun c7 => ?_) (fun c7 => ?_)
          · rw [if_pos c7] at h
            refine jv_iload (x := q3.1) (pc' := 630) hE dL_law_628 rfl rfl ?_
            refine jv_if_ne (x := q3.1) (tgt := 645) (pc' := 633) hE dL_law_630 (by decide) rfl (fun c8 => ?_) (fun c8 => ?_)
            · rw [if_neg c8] at h
              refine jv_goto (tgt := 1620) hE dL_law_645 (by decide) ?_
              cases h
              exact jv_forget [true, true, true, true, true, false, false] hk
            · rw [if_pos c8] at h
              refine jv_aload_n (x := 61) (pc' := 634) hE dL_law_633 rfl 3 rfl rfl ?_
              refine jv_iconst (v := (0 : Int32)) (pc' := 635) hE dL_law_634 rfl (by decide) ?_
              by_cases c9 : jv_ck (0 : Int32) 1 = true
              · rw [if_pos c9] at h
                refine jv_lald (pc' := 636) hE dL_law_635 rfl rfl (jv_ck_in c9) ?_
                show jv_V (jv_E1 E) 636 [some (.ref 62), some (.ref 0), some (.ref 35), some (.ref 61), some (.int v4), some (.int q3.1), some (.int q6.1)] [.long (q6.2.2 61 (0 : Int32).toNatClampNeg)] q6.2
                refine jv_iload (x := q6.1) (pc' := 638) hE dL_law_636 rfl rfl ?_
                refine jv_i2l (x := q6.1) (pc' := 639) hE dL_law_638 rfl ?_
                refine jv_lcmp (x := (q6.2.2 61 (0 : Int32).toNatClampNeg)) (y := q6.1.toInt64) (pc' := 640) hE dL_law_639 rfl ?_
                refine jv_if_eq (x := (lg_cmp (q6.2.2 61 (0 : Int32).toNatClampNeg) q6.1.toInt64)) (tgt := 645) (pc' := 643) hE dL_law_640 (by decide) rfl (fun c10 => ?_) (fun c10 => ?_)
                · rw [if_pos c10] at h
                  refine jv_goto (tgt := 1620) hE dL_law_645 (by decide) ?_
                  cases h
                  exact jv_forget [true, true, true, true, true, false, false] hk
                · rw [if_neg c10] at h
                  refine jv_iconst (v := (0 : Int32)) (pc' := 644) hE dL_law_643 rfl (by decide) ?_
                  cases h
              · rw [if_neg c9] at h; cases h
          · rw [if_neg c7] at h
            refine jv_iconst (v := (0 : Int32)) (pc' := 627) hE dL_law_626 rfl (by decide) ?_
            cases h
        · rw [if_neg c5] at h; cases h
      · rw [if_neg c4] at h; cases h
    · rw [if_neg c2] at h; cases h
  · rw [if_neg c1] at h; cases h
noncomputable def f_L_case10 (N : Nat) (xs : Nat → Int32) (v4 : Int32) (σ : jv_S) : Option jv_S := if jv_ck (v4 + (1 : Int32)) N = true then (if jv_ck (v4 + (2 : Int32)) N = true then (jv_bd (f_L_startPaths σ (xs (v4 + (1 : Int32)).toNatClampNeg) (xs (v4 + (2 : Int32)).toNatClampNeg)) (fun q3 => if jv_ck (v4 + (1 : Int32)) N = true then (if jv_ck (v4 + (2 : Int32)) N = true then (jv_lt (f_X8_startPaths q3.2 (xs (v4 + (1 : Int32)).toNatClampNeg) (xs (v4 + (2 : Int32)).toNatClampNeg)) (fun q6 => if (f_X8_thrown q6) = q3.1 then (some q6) else (none))) else none) else none)) else none) else none
set_option maxRecDepth 100000 in
set_option maxHeartbeats 4000000 in
theorem lc_10 {E : jv_E} {N : Nat} {xs : Nat → Int32} (hl0 : (jv_l E).stackTraces = false) (hE : jv_Cx E RL cL_law 7 21) (hR : jv_rc E 1) (hS : jv_Sc E N xs) {v4 : Int32} {σ τ : jv_S} (h : f_L_case10 N xs v4 σ = some τ) (hk : jv_V (jv_E1 E) 1620 [some (.ref 62), some (.ref 0), some (.ref 35), some (.ref 61), some (.int v4), none, none] [] τ) : jv_V E 648 [some (.ref 62), some (.ref 0), some (.ref 35), some (.ref 61), some (.int v4), none, none] [] σ := by
  unfold f_L_case10 at h
  refine jv_aload_n (x := 0) (pc' := 649) hE dL_law_648 rfl 1 rfl rfl ?_
  refine jv_aload_n (x := 62) (pc' := 650) hE dL_law_649 rfl 0 rfl rfl ?_
  refine jv_iload (x := v4) (pc' := 652) hE dL_law_650 rfl rfl ?_
  refine jv_iconst (v := (1 : Int32)) (pc' := 653) hE dL_law_652 rfl (by decide) ?_
  refine jv_iadd (x := v4) (y := (1 : Int32)) (pc' := 654) hE dL_law_653 rfl ?_
  by_cases c1 : jv_ck (v4 + (1 : Int32)) N = true
  · rw [if_pos c1] at h
    refine jv_sld (pc' := 655) hE hS dL_law_654 rfl (jv_ck_in c1) ?_
    show jv_V E 655 [some (.ref 62), some (.ref 0), some (.ref 35), some (.ref 61), some (.int v4), none, none] [.int (xs (v4 + (1 : Int32)).toNatClampNeg), .ref 0] σ
    refine jv_aload_n (x := 62) (pc' := 656) hE dL_law_655 rfl 0 rfl rfl ?_
    refine jv_iload (x := v4) (pc' := 658) hE dL_law_656 rfl rfl ?_
    refine jv_iconst (v := (2 : Int32)) (pc' := 659) hE dL_law_658 rfl (by decide) ?_
    refine jv_iadd (x := v4) (y := (2 : Int32)) (pc' := 660) hE dL_law_659 rfl ?_
    by_cases c2 : jv_ck (v4 + (2 : Int32)) N = true
    · rw [if_pos c2] at h
      refine jv_sld (pc' := 661) hE hS dL_law_660 rfl (jv_ck_in c2) ?_
      show jv_V E 661 [some (.ref 62), some (.ref 0), some (.ref 35), some (.ref 61), some (.int v4), none, none] [.int (xs (v4 + (2 : Int32)).toNatClampNeg), .int (xs (v4 + (1 : Int32)).toNatClampNeg), .ref 0] σ
      obtain ⟨q3, hq3, h⟩ := jv_bd_some h
      refine jv_callW (pc' := 664) hE hR dL_law_661 rfl lK_L_140 (ok_L_startPaths hl0 hq3) rfl (by decide) rfl (Nat.le_of_ble_eq_true rfl) ?_
      show jv_V (jv_E1 E) 664 [some (.ref 62), some (.ref 0), some (.ref 35), some (.ref 61), some (.int v4), none, none] [.int q3.1] q3.2
      have hE := jv_Cx1 hE hR
      have hS := jv_Sc1 hS
      refine jv_istore (x := q3.1) (L' := [some (.ref 62), some (.ref 0), some (.ref 35), some (.ref 61), some (.int v4), some (.int q3.1), none]) (pc' := 666) hE dL_law_664 rfl (by decide) rfl rfl ?_
      refine jv_aload_n (x := 35) (pc' := 667) hE dL_law_666 rfl 2 rfl rfl ?_
      refine jv_aload_n (x := 62) (pc' := 668) hE dL_law_667 rfl 0 rfl rfl ?_
      refine jv_iload (x := v4) (pc' := 670) hE dL_law_668 rfl rfl ?_
      refine jv_iconst (v := (1 : Int32)) (pc' := 671) hE dL_law_670 rfl (by decide) ?_
      refine jv_iadd (x := v4) (y := (1 : Int32)) (pc' := 672) hE dL_law_671 rfl ?_
      by_cases c4 : jv_ck (v4 + (1 : Int32)) N = true
      · rw [if_pos c4] at h
        refine jv_sld (pc' := 673) hE hS dL_law_672 rfl (jv_ck_in c4) ?_
        show jv_V (jv_E1 E) 673 [some (.ref 62), some (.ref 0), some (.ref 35), some (.ref 61), some (.int v4), some (.int q3.1), none] [.int (xs (v4 + (1 : Int32)).toNatClampNeg), .ref 35] q3.2
        refine jv_aload_n (x := 62) (pc' := 674) hE dL_law_673 rfl 0 rfl rfl ?_
        refine jv_iload (x := v4) (pc' := 676) hE dL_law_674 rfl rfl ?_
        refine jv_iconst (v := (2 : Int32)) (pc' := 677) hE dL_law_676 rfl (by decide) ?_
        refine jv_iadd (x := v4) (y := (2 : Int32)) (pc' := 678) hE dL_law_677 rfl ?_
        by_cases c5 : jv_ck (v4 + (2 : Int32)) N = true
        · rw [if_pos c5] at h
          refine jv_sld (pc' := 679) hE hS dL_law_678 rfl (jv_ck_in c5) ?_
          show jv_V (jv_E1 E) 679 [some (.ref 62), some (.ref 0), some (.ref 35), some (.ref 61), some (.int v4), some (.int q3.1), none] [.int (xs (v4 + (2 : Int32)).toNatClampNeg), .int (xs (v4 + (1 : Int32)).toNatClampNeg), .ref 35] q3.2
          obtain ⟨q6, hq6, h⟩ := jv_lt_eq h
          refine jv_callV (pc' := 682) (o := none) (σ' := q6) hE dL_law_679 rfl lV_L_143 (ok_X8_startPaths hq6) rfl rfl rfl (by decide) rfl (Nat.le_of_ble_eq_true rfl) ?_
          show jv_V (jv_E1 E) 682 [some (.ref 62), some (.ref 0), some (.ref 35), some (.ref 61), some (.int v4), some (.int q3.1), none] [] q6
          refine jv_aload_n (x := 35) (pc' := 683) hE dL_law_682 rfl 2 rfl rfl ?_
          refine jv_callV (pc' := 686) (o := some (.int (f_X8_thrown q6))) (σ' := q6) hE dL_law_683 rfl lV_L_104 (ok_X8_thrown rfl) rfl rfl rfl (by decide) rfl (Nat.le_of_ble_eq_true rfl) ?_
          show jv_V (jv_E1 E) 686 [some (.ref 62), some (.ref 0), some (.ref 35), some (.ref 61), some (.int v4), some (.int q3.1), none] [.int (f_X8_thrown q6)] q6
          refine jv_iload (x := q3.1) (pc' := 688) hE dL_law_686 rfl rfl ?_
          refine jv_icmp_eq (x := (f_X8_thrown q6)) (y := q3.1) (tgt := 693) (pc' := 691) hE dL_law_688 (by decide) rfl (fun c7 => ?_) (fun c7 => ?_)
          · rw [if_pos c7] at h
            refine jv_goto (tgt := 1620) hE dL_law_693 (by decide) ?_
            cases h
            exact jv_forget [true, true, true, true, true, false, false] hk
          · rw [if_neg c7] at h
            refine jv_iconst (v := (0 : Int32)) (pc' := 692) hE dL_law_691 rfl (by decide) ?_
            cases h
        · rw [if_neg c5] at h; cases h
      · rw [if_neg c4] at h; cases h
    · rw [if_neg c2] at h; cases h
  · rw [if_neg c1] at h; cases h
noncomputable def f_L_case11 (N : Nat) (xs : Nat → Int32) (v4 : Int32) (σ : jv_S) : Option jv_S := jv_bd (f_L_nextPath σ) (fun q1 => jv_bd (f_X8_nextPath q1.2) (fun q2 => if (f_X8_thrown q2.2) = q1.1 then (if q1.1 = 0 then (if jv_ck (0 : Int32) 1 = true then (if (lg_cmp (q2.2.2 61 (0 : Int32).toNatClampNeg) q2.1.toInt64) = 0 then (some q2.2) else (none)) else none) else (some q2.2)) else (none)))
set_option maxRecDepth 100000 in
set_option maxHeartbeats 4000000 in
theorem lc_11 {E : jv_E} {N : Nat} {xs : Nat → Int32} (hl0 : (jv_l E).stackTraces = false) (hE : jv_Cx E RL cL_law 7 21) (hR : jv_rc E 1) (hS : jv_Sc E N xs) {v4 : Int32} {σ τ : jv_S} (h : f_L_case11 N xs v4 σ = some τ) (hk : jv_V (jv_E1 E) 1620 [some (.ref 62), some (.ref 0), some (.ref 35), some (.ref 61), some (.int v4), none, none] [] τ) : jv_V E 696 [some (.ref 62), some (.ref 0), some (.ref 35), some (.ref 61), some (.int v4), none, none] [] σ := by
  unfold f_L_case11 at h
  refine jv_aload_n (x := 0) (pc' := 697) hE dL_law_696 rfl 1 rfl rfl ?_
  refine jv_aload_n (x := 61) (pc' := 698) hE dL_law_697 rfl 3 rfl rfl ?_
  obtain ⟨q1, hq1, h⟩ := jv_bd_some h
  refine jv_callW (pc' := 701) hE hR dL_law_698 rfl lK_L_144 (ok_L_nextPath hl0 hq1) rfl (by decide) rfl (Nat.le_of_ble_eq_true rfl) ?_
  show jv_V (jv_E1 E) 701 [some (.ref 62), some (.ref 0), some (.ref 35), some (.ref 61), some (.int v4), none, none] [.int q1.1] q1.2
  have hE := jv_Cx1 hE hR
  have hS := jv_Sc1 hS
  refine jv_istore (x := q1.1) (L' := [some (.ref 62), some (.ref 0), some (.ref 35), some (.ref 61), some (.int v4), some (.int q1.1), none]) (pc' := 703) hE dL_law_701 rfl (by decide) rfl rfl ?_
  refine jv_aload_n (x := 35) (pc' := 704) hE dL_law_703 rfl 2 rfl rfl ?_
  obtain ⟨q2, hq2, h⟩ := jv_bd_some h
  refine jv_callV (pc' := 707) (o := some (.int q2.1)) (σ' := q2.2) hE dL_law_704 rfl lV_L_147 (ok_X8_nextPath hq2) rfl rfl rfl (by decide) rfl (Nat.le_of_ble_eq_true rfl) ?_
  show jv_V (jv_E1 E) 707 [some (.ref 62), some (.ref 0), some (.ref 35), some (.ref 61), some (.int v4), some (.int q1.1), none] [.int q2.1] q2.2
  refine jv_istore (x := q2.1) (L' := [some (.ref 62), some (.ref 0), some (.ref 35), some (.ref 61), some (.int v4), some (.int q1.1), some (.int q2.1)]) (pc' := 709) hE dL_law_707 rfl (by decide) rfl rfl ?_
  refine jv_aload_n (x := 35) (pc' := 710) hE dL_law_709 rfl 2 rfl rfl ?_
  refine jv_callV (pc' := 713) (o := some (.int (f_X8_thrown q2.2))) (σ' := q2.2) hE dL_law_710 rfl lV_L_104 (ok_X8_thrown rfl) rfl rfl rfl (by decide) rfl (Nat.le_of_ble_eq_true rfl) ?_
  show jv_V (jv_E1 E) 713 [some (.ref 62), some (.ref 0), some (.ref 35), some (.ref 61), some (.int v4), some (.int q1.1), some (.int q2.1)] [.int (f_X8_thrown q2.2)] q2.2
  refine jv_iload (x := q1.1) (pc' := 715) hE dL_law_713 rfl rfl ?_
  refine jv_icmp_eq (x := (f_X8_thrown q2.2)) (y := q1.1) (tgt := 720) (pc' := 718) hE dL_law_715 (by decide) rfl (fun c3 => ?_) (fun c3 => ?_)
  · rw [if_pos c3] at h
    refine jv_iload (x := q1.1) (pc' := 722) hE dL_law_720 rfl rfl ?_
    refine jv_if_ne (x := q1.1) (tgt := 737) (pc' := 725) hE dL_law_722 (by decide) rfl (fun c4 => ?_) (fun c4 => ?_)
    · rw [if_neg c4] at h
      refine jv_goto (tgt := 1620) hE dL_law_737 (by decide) ?_
      cases h
      exact jv_forget [true, true, true, true, true, false, false] hk
    · rw [if_pos c4] at h
      refine jv_aload_n (x := 61) (pc' := 726) hE dL_law_725 rfl 3 rfl rfl ?_
      refine jv_iconst (v := (0 : Int32)) (pc' := 727) hE dL_law_726 rfl (by decide) ?_
      by_cases c5 : jv_ck (0 : Int32) 1 = true
      · rw [if_pos c5] at h
        refine jv_lald (pc' := 728) hE dL_law_727 rfl rfl (jv_ck_in c5) ?_
        show jv_V (jv_E1 E) 728 [some (.ref 62), some (.ref 0), some (.ref 35), some (.ref 61), some (.int v4), some (.int q1.1), some (.int q2.1)] [.long (q2.2.2 61 (0 : Int32).toNatClampNeg)] q2.2
        refine jv_iload (x := q2.1) (pc' := 730) hE dL_law_728 rfl rfl ?_
        refine jv_i2l (x := q2.1) (pc' := 731) hE dL_law_730 rfl ?_
        refine jv_lcmp (x := (q2.2.2 61 (0 : Int32).toNatClampNeg)) (y := q2.1.toInt64) (pc' := 732) hE dL_law_731 rfl ?_
        refine jv_if_eq (x := (lg_cmp (q2.2.2 61 (0 : Int32).toNatClampNeg) q2.1.toInt64)) (tgt := 737) (pc' := 735) hE dL_law_732 (by decide) rfl (fun c6 => ?_) (fun c6 => ?_)
        · rw [if_pos c6] at h
          refine jv_goto (tgt := 1620) hE dL_law_737 (by decide) ?_
          cases h
          exact jv_forget [true, true, true, true, true, false, false] hk
        · rw [if_neg c6] at h
          refine jv_iconst (v := (0 : Int32)) (pc' := 736) hE dL_law_735 rfl (by decide) ?_
          cases h
      · rw [if_neg c5] at h; cases h
  · rw [if_neg c3] at h
    refine jv_iconst (v := (0 : Int32)) (pc' := 719) hE dL_law_718 rfl (by decide) ?_
    cases h
noncomputable def f_L_case12 (N : Nat) (xs : Nat → Int32) (v4 : Int32) (σ : jv_S) : Option jv_S := jv_bd (f_L_pathsDrawn σ) (fun q1 => jv_lt (f_X8_pathsDrawn q1.2) (fun q2 => if (f_X8_thrown q2.2) = q1.1 then (if q1.1 = 0 then (if jv_ck (0 : Int32) 1 = true then (if (lg_cmp (q2.2.2 61 (0 : Int32).toNatClampNeg) q2.1.toInt64) = 0 then (some q2.2) else (none)) else none) else (some q2.2)) else (none)))
set_option maxRecDepth 100000 in
set_option maxHeartbeats 4000000 in
theorem lc_12 {E : jv_E} {N : Nat} {xs : Nat → Int32} (hl0 : (jv_l E).stackTraces = false) (hE : jv_Cx E RL cL_law 7 21) (hR : jv_rc E 1) (hS : jv_Sc E N xs) {v4 : Int32} {σ τ : jv_S} (h : f_L_case12 N xs v4 σ = some τ) (hk : jv_V (jv_E1 E) 1620 [some (.ref 62), some (.ref 0), some (.ref 35), some (.ref 61), some (.int v4), none, none] [] τ) : jv_V E 740 [some (.ref 62), some (.ref 0), some (.ref 35), some (.ref 61), some (.int v4), none, none] [] σ := by
  unfold f_L_case12 at h
  refine jv_aload_n (x := 0) (pc' := 741) hE dL_law_740 rfl 1 rfl rfl ?_
  refine jv_aload_n (x := 61) (pc' := 742) hE dL_law_741 rfl 3 rfl rfl ?_
  obtain ⟨q1, hq1, h⟩ := jv_bd_some h
  refine jv_callW (pc' := 745) hE hR dL_law_742 rfl lK_L_148 (ok_L_pathsDrawn hl0 hq1) rfl (by decide) rfl (Nat.le_of_ble_eq_true rfl) ?_
  show jv_V (jv_E1 E) 745 [some (.ref 62), some (.ref 0), some (.ref 35), some (.ref 61), some (.int v4), none, none] [.int q1.1] q1.2
  have hE := jv_Cx1 hE hR
  have hS := jv_Sc1 hS
  refine jv_istore (x := q1.1) (L' := [some (.ref 62), some (.ref 0), some (.ref 35), some (.ref 61), some (.int v4), some (.int q1.1), none]) (pc' := 747) hE dL_law_745 rfl (by decide) rfl rfl ?_
  refine jv_aload_n (x := 35) (pc' := 748) hE dL_law_747 rfl 2 rfl rfl ?_
  obtain ⟨q2, hq2, h⟩ := jv_lt_eq h
  refine jv_callV (pc' := 751) (o := some (.int q2.1)) (σ' := q2.2) hE dL_law_748 rfl lV_L_150 (ok_X8_pathsDrawn hq2) rfl rfl rfl (by decide) rfl (Nat.le_of_ble_eq_true rfl) ?_
  show jv_V (jv_E1 E) 751 [some (.ref 62), some (.ref 0), some (.ref 35), some (.ref 61), some (.int v4), some (.int q1.1), none] [.int q2.1] q2.2
  refine jv_istore (x := q2.1) (L' := [some (.ref 62), some (.ref 0), some (.ref 35), some (.ref 61), some (.int v4), some (.int q1.1), some (.int q2.1)]) (pc' := 753) hE dL_law_751 rfl (by decide) rfl rfl ?_
  refine jv_aload_n (x := 35) (pc' := 754) hE dL_law_753 rfl 2 rfl rfl ?_
  refine jv_callV (pc' := 757) (o := some (.int (f_X8_thrown q2.2))) (σ' := q2.2) hE dL_law_754 rfl lV_L_104 (ok_X8_thrown rfl) rfl rfl rfl (by decide) rfl (Nat.le_of_ble_eq_true rfl) ?_
  show jv_V (jv_E1 E) 757 [some (.ref 62), some (.ref 0), some (.ref 35), some (.ref 61), some (.int v4), some (.int q1.1), some (.int q2.1)] [.int (f_X8_thrown q2.2)] q2.2
  refine jv_iload (x := q1.1) (pc' := 759) hE dL_law_757 rfl rfl ?_
  refine jv_icmp_eq (x := (f_X8_thrown q2.2)) (y := q1.1) (tgt := 764) (pc' := 762) hE dL_law_759 (by decide) rfl (fun c3 => ?_) (fun c3 => ?_)
  · rw [if_pos c3] at h
    refine jv_iload (x := q1.1) (pc' := 766) hE dL_law_764 rfl rfl ?_
    refine jv_if_ne (x := q1.1) (tgt := 781) (pc' := 769) hE dL_law_766 (by decide) rfl (fun c4 => ?_) (fun c4 => ?_)
    · rw [if_neg c4] at h
      refine jv_goto (tgt := 1620) hE dL_law_781 (by decide) ?_
      cases h
      exact jv_forget [true, true, true, true, true, false, false] hk
    · rw [if_pos c4] at h
      refine jv_aload_n (x := 61) (pc' := 770) hE dL_law_769 rfl 3 rfl rfl ?_
      refine jv_iconst (v := (0 : Int32)) (pc' := 771) hE dL_law_770 rfl (by decide) ?_
      by_cases c5 : jv_ck (0 : Int32) 1 = true
      · rw [if_pos c5] at h
        refine jv_lald (pc' := 772) hE dL_law_771 rfl rfl (jv_ck_in c5) ?_
        show jv_V (jv_E1 E) 772 [some (.ref 62), some (.ref 0), some (.ref 35), some (.ref 61), some (.int v4), some (.int q1.1), some (.int q2.1)] [.long (q2.2.2 61 (0 : Int32).toNatClampNeg)] q2.2
        refine jv_iload (x := q2.1) (pc' := 774) hE dL_law_772 rfl rfl ?_
        refine jv_i2l (x := q2.1) (pc' := 775) hE dL_law_774 rfl ?_
        refine jv_lcmp (x := (q2.2.2 61 (0 : Int32).toNatClampNeg)) (y := q2.1.toInt64) (pc' := 776) hE dL_law_775 rfl ?_
        refine jv_if_eq (x := (lg_cmp (q2.2.2 61 (0 : Int32).toNatClampNeg) q2.1.toInt64)) (tgt := 781) (pc' := 779) hE dL_law_776 (by decide) rfl (fun c6 => ?_) (fun c6 => ?_)
        · rw [if_pos c6] at h
          refine jv_goto (tgt := 1620) hE dL_law_781 (by decide) ?_
          cases h
          exact jv_forget [true, true, true, true, true, false, false] hk
        · rw [if_neg c6] at h
          refine jv_iconst (v := (0 : Int32)) (pc' := 780) hE dL_law_779 rfl (by decide) ?_
          cases h
      · rw [if_neg c5] at h; cases h
  · rw [if_neg c3] at h
    refine jv_iconst (v := (0 : Int32)) (pc' := 763) hE dL_law_762 rfl (by decide) ?_
    cases h
