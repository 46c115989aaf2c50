/-! ===== the network is changed ===== -/
theorem nw_p67 {N : nw_N} {σ τ : jv_S} (h : nw_f (fun a _ => a == 6 || a == 7) σ τ) (hC : nw_C0 N σ) : nw_C0 N τ := h.keepC hC (fun k j hk => by
  simp only [nw_pC, Bool.or_eq_true, Bool.and_eq_true, beq_iff_eq, Bool.or_eq_false_iff, beq_eq_false_iff_ne] at hk ⊢
  omega)
section NWCH
variable {N : nw_N} {c : Nat} {σ : jv_S}
theorem nw_chg {N' : nw_N} {ρ : jv_S} (h1 : nw_W N') (h2 : nw_C0 N' ρ) (h3 : nw_C1 N' ρ) (h4 : nw_M N' ρ) (h5 : ∀ v, v < 10 → ρ.1 27 (24 + v) = nI 0) (h6 : ρ.1 0 7 = 0) (h7 : ρ.1 0 8 = 0) (h8 : ρ.1 35 9 = 0) (h9 : ρ.1 35 23 = 0) : nw_I c ρ := ⟨N', ⟨h1, h2, h3, h4, h5⟩, Or.inl ⟨h6, h8⟩, Or.inl ⟨h7, h9⟩⟩
theorem nw_b38 : ∀ (k j fuel : Nat) (σ : jv_S), j + k = 10 → k < fuel → (∀ v, v < j → σ.1 40 v = 0) → ∃ τ z, f_X8_begin_lp38 fuel (nI j) σ = some (z, τ) ∧ nw_f (nw_r 40) σ τ ∧ ∀ v, v < 10 → τ.1 40 v = 0 := by
  intro k
  induction k with
  | zero =>
    intro j fuel σ hj hf h
    obtain ⟨f, rfl⟩ := nw_f0 hf
    have hj : j = 10 := by omega
    subst hj
    exact ⟨σ, nI 10, by rw [f_X8_begin_lp38, if_pos (show (10 : Int32) ≤ nI 10 from nI_le (Nat.le_refl _) (by omega))], nw_f.rfl, h⟩
  | succ k ih =>
    intro j fuel σ hj hf h
    obtain ⟨f, rfl, hg⟩ := nw_fe hf
    rw [f_X8_begin_lp38, if_neg (show ¬ (10 : Int32) ≤ nI j from nI_ge (b := 10) (by omega) (by omega)), nw_ck (by omega) (by omega), nI_clamp (by omega), nI_1, if_pos rfl]
    obtain ⟨τ, z, g1, g2, g3⟩ := ih (j + 1) f (jv_si σ 40 j (0 : Int32)) (by omega) hg (fun v hv => by
      by_cases e : v = j
      · rw [e, nw_gs]
      · rw [nw_gj e]; exact h v (by omega))
    exact ⟨τ, z, g1, (nw_f.rfl.si nw_r_t).trans g2, g3⟩
theorem nw_b59 : ∀ (k j fuel : Nat) (σ : jv_S), j + k = 576 → k < fuel → (∀ v, v < j → σ.1 41 v = 0) → ∃ τ z, f_X8_begin_lp59 fuel (nI j) σ = some (z, τ) ∧ nw_f (nw_r 41) σ τ ∧ ∀ v, v < 576 → τ.1 41 v = 0 := by
  intro k
  induction k with
  | zero =>
    intro j fuel σ hj hf h
    obtain ⟨f, rfl⟩ := nw_f0 hf
    have hj : j = 576 := by omega
    subst hj
    exact ⟨σ, nI 576, by rw [f_X8_begin_lp59, if_pos (show (576 : Int32) ≤ nI 576 from nI_le (Nat.le_refl _) (by omega))], nw_f.rfl, h⟩
  | succ k ih =>
    intro j fuel σ hj hf h
    obtain ⟨f, rfl, hg⟩ := nw_fe hf
    rw [f_X8_begin_lp59, if_neg (show ¬ (576 : Int32) ≤ nI j from nI_ge (b := 576) (by omega) (by omega)), nw_ck (by omega) (by omega), nI_clamp (by omega), nI_1, if_pos rfl]
    obtain ⟨τ, z, g1, g2, g3⟩ := ih (j + 1) f (jv_si σ 41 j (0 : Int32)) (by omega) hg (fun v hv => by
      by_cases e : v = j
      · rw [e, nw_gs]
      · rw [nw_gj e]; exact h v (by omega))
    exact ⟨τ, z, g1, (nw_f.rfl.si nw_r_t).trans g2, g3⟩
theorem nw_q0 (h : nw_all N c σ) (p : Int32) : ∃ τ, jv_bd (f_L_begin σ p) (fun q2 => jv_bd (f_X8_begin q2.2 p) (fun q4 => nw_fth q2.1 q4)) = some τ ∧ nw_I (c + 1) τ := by
  rcases nw_range (σ := σ) p (2 : Int32) (10 : Int32) with ⟨r1, r2, r3, r4⟩ | ⟨r3, r4⟩
  · obtain ⟨n', rfl, hl1, hl2⟩ := nw_rng (lo := 2) (hi := 10) (by omega) (by omega) r1 r2
    let N' : nw_N := ((n', 0), N.2.1, (fun _ => false), (fun _ => false), (fun _ _ => false))
    have hW' : nw_W N' := ⟨hl1, hl2, Nat.zero_le _, fun e he => absurd he (Nat.not_lt_zero _), fun _ _ => rfl⟩
    have hC' : nw_C0 N' (jv_fl (jv_si (jv_si (jv_si (jv_si σ 1 6 (nI n')) 1 7 (0 : Int32)) 1 8 (0 : Int32)) 1 9 (0 : Int32)) 5 24 (0 : Int32)) := by
      refine ⟨?_, ?_, fun e he => absurd he (Nat.not_lt_zero _), fun e he => ?_, fun v hv => ?_, fun e he f hf => ?_⟩
      · rw [nw_fln (by decide), nw_gj (by decide), nw_gj (by decide), nw_gj (by decide), nw_gs]; rfl
      · rw [nw_fln (by decide), nw_gj (by decide), nw_gj (by decide), nw_gs]; rfl
      · rw [nw_fln (by decide), nw_gs, b_0]; rfl
      · rw [nw_fln (by decide), nw_gj (by decide), nw_gs, b_0]; rfl
      · rw [nw_fl, if_pos he, b_0]; rfl
    obtain ⟨τ, g1, g2, g3⟩ := nw_list hW' hC'
    have hcl : f_L_begin σ (nI n') = some ((0 : Int32), jv_si (jv_si τ 0 7 (0 : Int32)) 0 8 (0 : Int32)) := by
      unfold f_L_begin f_X7_begin f_X3_clear
      rw [r3, nw_xeO, g1]
      rfl
    obtain ⟨t1, z1, b1, b2, b3⟩ := nw_b38 10 0 jv_fuel (jv_si (jv_si (jv_si (jv_si (jv_si (jv_si (jv_si τ 0 7 (0 : Int32)) 0 8 (0 : Int32)) 35 0 (0 : Int32)) 35 1 (nI n')) 35 2 (0 : Int32)) 35 9 (0 : Int32)) 35 23 (0 : Int32)) rfl (nw_fu (by omega)) (fun v hv => by omega)
    obtain ⟨t2, z2, d1, d2, d3⟩ := nw_b59 576 0 jv_fuel t1 rfl (nw_fu (by omega)) (fun v hv => by omega)
    have hrf : f_X8_begin (jv_si (jv_si τ 0 7 (0 : Int32)) 0 8 (0 : Int32)) (nI n') = some t2 := by
      unfold f_X8_begin
      rw [if_pos (r4 _), nw_lt, show jv_b false = (0 : Int32) from rfl, nw_h0, nw_lt, if_pos rfl, nw_lt]
      unfold f_X8_isChanged
      rw [show f_X8_begin_lp38 jv_fuel (0 : Int32) _ = _ from b1, nw_bd, show f_X8_begin_lp59 jv_fuel (0 : Int32) t1 = _ from d1, nw_bd, nw_bd]
    rw [hcl, nw_bd, hrf, nw_bd]
    -- what stands in the end
    have hk : ∀ k, k ≠ 40 → k ≠ 41 → t2.1 k = (jv_si (jv_si (jv_si (jv_si (jv_si (jv_si (jv_si τ 0 7 (0 : Int32)) 0 8 (0 : Int32)) 35 0 (0 : Int32)) 35 1 (nI n')) 35 2 (0 : Int32)) 35 9 (0 : Int32)) 35 23 (0 : Int32)).1 k := fun k h1 h2 => by rw [d2.row h2, b2.row h1]
    have hk2 : ∀ k, k ≠ 40 → k ≠ 41 → k ≠ 35 → k ≠ 0 → t2.1 k = τ.1 k := fun k h1 h2 h3 h4 => by
      rw [hk k h1 h2, nw_gn h3, nw_gn h3, nw_gn h3, nw_gn h3, nw_gn h3, nw_gn h4, nw_gn h4]
    refine ⟨t2, nw_fthO ?_, nw_chg (N' := N') hW' ((nw_p67 g2 hC').keep (fun k j hk' => ?_)) (g3.keep (hk2 6 (by decide) (by decide) (by decide) (by decide)) (hk2 7 (by decide) (by decide) (by decide) (by decide))) ⟨?_, ?_, fun e he => absurd he (Nat.not_lt_zero _), fun v hv => ?_, fun e he f hf => ?_⟩ (fun v hv => ?_) ?_ ?_ ?_ ?_⟩
    · rw [hk 35 (by decide) (by decide)]; simp [nw_g]
    · rw [hk2 k]
      all_goals
        simp only [nw_pC, Bool.or_eq_true, Bool.and_eq_true, beq_iff_eq] at hk'
        omega
    · rw [hk 35 (by decide) (by decide)]; simp [nw_g]; rfl
    · rw [hk 35 (by decide) (by decide)]; simp [nw_g]; rfl
    · rw [d2.row (by decide), b3 v hv]; rfl
    · rw [d3 _ (by omega)]; rfl
    · rw [hk2 27 (by decide) (by decide) (by decide) (by decide), (g2.lng (k := 27) (fun _ => rfl)).1, nw_fln (by decide), nw_gn (by decide), nw_gn (by decide), nw_gn (by decide), nw_gn (by decide), h.1.2.2.2.2 v hv]
    · rw [hk 0 (by decide) (by decide)]; simp [nw_g]
    · rw [hk 0 (by decide) (by decide)]; simp [nw_g]
    · rw [hk 35 (by decide) (by decide)]; simp [nw_g]
    · rw [hk 35 (by decide) (by decide)]; simp [nw_g]
  · have hcl : f_L_begin σ p = some ((1 : Int32), σ) := by
      unfold f_L_begin f_X7_begin
      rw [r3]
      rfl
    have hrf : f_X8_begin σ p = some (jv_si σ 35 0 (1 : Int32)) := by
      unfold f_X8_begin
      rw [if_neg (by rw [r4]; decide), nw_lt, show jv_b true = (1 : Int32) from rfl, nw_hk (by decide)]
      rfl
    rw [hcl, nw_bd, hrf, nw_bd]
    exact ⟨_, nw_fthO nw_gs, nw_scr h (by omega) (nw_f.rfl.si (by rfl))⟩
/-- what both sides leave alone in a change -/
theorem nw_q1 (h : nw_all N c σ) (p q r : Int32) : ∃ τ, jv_bd (f_L_addEdge σ p q r) (fun q4 => jv_bd (f_X8_addEdge q4.2 p q r) (fun q8 => nw_fin q4.1 q8)) = some τ ∧ nw_I (c + 1) τ := by
  obtain ⟨⟨hW, hC, hD, hM, h27⟩, -, -⟩ := id h
  have hn := hW.n
  have herr : f_L_addEdge σ p q r = some ((1 : Int32), σ) → f_X8_addEdge σ p q r = some (0, jv_si σ 35 0 (1 : Int32)) → ∃ τ, jv_bd (f_L_addEdge σ p q r) (fun q4 => jv_bd (f_X8_addEdge q4.2 p q r) (fun q8 => nw_fin q4.1 q8)) = some τ ∧ nw_I (c + 1) τ := fun h1 h2 => nw_fin1 h (k := 1) (z := 0) (B := fun s => f_X8_addEdge s p q r) (Or.inl rfl) h1 h2
  rcases nw_two h.1 p q with ⟨i, j, hi, hj, hne, rfl, rfl, e1, e2⟩ | ⟨e1, e2⟩
  · rcases nw_range (σ := σ) r (1 : Int32) (1000 : Int32) with ⟨r1, r2, r3, r4⟩ | ⟨r3, r4⟩
    · obtain ⟨l, rfl, hl1, hl2⟩ := nw_rng (lo := 1) (hi := 1000) (by omega) (by omega) r1 r2
      by_cases cm : nw_m N < 24
      · let N' : nw_N := ((nw_n N, nw_m N + 1), (nw_u1 (nw_t N) (nw_m N) i, nw_u1 (nw_e N) (nw_m N) j, nw_u1 (nw_l N) (nw_m N) l), nw_ce N, nw_cn N, nw_fb N)
        have et : ∀ e, nw_t N' e = nw_u1 (nw_t N) (nw_m N) i e := fun _ => rfl
        have ee : ∀ e, nw_e N' e = nw_u1 (nw_e N) (nw_m N) j e := fun _ => rfl
        have el : ∀ e, nw_l N' e = nw_u1 (nw_l N) (nw_m N) l e := fun _ => rfl
        have em : nw_m N' = nw_m N + 1 := rfl
        have hW' : nw_W N' := ⟨hn.1, hn.2.1, cm, fun e he => by
          rw [et, ee, el]
          show _ < nw_n N ∧ _ < nw_n N ∧ _
          by_cases c1 : e = nw_m N
          · rw [c1, nw_u1s, nw_u1s, nw_u1s]; exact ⟨hi, hj, hne, hl1, hl2⟩
          · rw [nw_u1n c1, nw_u1n c1, nw_u1n c1]
            have := hW.e (show e < nw_m N by rw [em] at he; omega)
            omega, fun e he => hW.2.2.2.2 e (by rw [em] at he; omega)⟩
        have hC' : nw_C0 N' (jv_si (jv_si (jv_si (jv_si (jv_si (jv_si σ 0 7 (0 : Int32)) 0 8 (0 : Int32)) 2 (nw_m N) (nI i)) 3 (nw_m N) (nI j)) 4 (nw_m N) (nI l)) 1 7 (nI (nw_m N + 1))) := by
          refine ⟨?_, ?_, fun e he => ⟨?_, ?_, ?_⟩, fun e he => ?_, fun v hv => ?_, fun e he f hf => ?_⟩
          · rw [nw_gj (by decide), nw_gn (by decide), nw_gn (by decide), nw_gn (by decide), nw_gn (by decide), nw_gn (by decide), hC.1]; rfl
          · rw [nw_gs]; rfl
          · rw [nw_gn (by decide), nw_gn (by decide), nw_gn (by decide), et]
            by_cases c1 : e = nw_m N
            · rw [c1, nw_gs, nw_u1s]
            · rw [nw_gj c1, nw_u1n c1, nw_gn (by decide), nw_gn (by decide), (hC.2.2.1 e (by rw [em] at he; omega)).1]
          · rw [nw_gn (by decide), nw_gn (by decide), ee]
            by_cases c1 : e = nw_m N
            · rw [c1, nw_gs, nw_u1s]
            · rw [nw_gj c1, nw_u1n c1, nw_gn (by decide), nw_gn (by decide), nw_gn (by decide), (hC.2.2.1 e (by rw [em] at he; omega)).2.1]
          · rw [nw_gn (by decide), el]
            by_cases c1 : e = nw_m N
            · rw [c1, nw_gs, nw_u1s]
            · rw [nw_gj c1, nw_u1n c1, nw_gn (by decide), nw_gn (by decide), nw_gn (by decide), nw_gn (by decide), (hC.2.2.1 e (by rw [em] at he; omega)).2.2]
          · rw [nw_gj (by decide), nw_gn (by decide), nw_gn (by decide), nw_gn (by decide), nw_gn (by decide), nw_gn (by decide), hC.2.2.2.1 e he]; rfl
          · rw [nw_gj (by decide), nw_gn (by decide), nw_gn (by decide), nw_gn (by decide), nw_gn (by decide), nw_gn (by decide), hC.2.2.2.2.1 v hv]; rfl
          · rw [nw_gn (by decide), nw_gn (by decide), nw_gn (by decide), nw_gn (by decide), nw_gn (by decide), nw_gn (by decide), hC.2.2.2.2.2 e he f hf]; rfl
        obtain ⟨τ, g1, g2, g3⟩ := nw_list hW' hC'
        have h17 : (jv_si (jv_si σ 0 7 (0 : Int32)) 0 8 (0 : Int32)).1 1 7 = nI (nw_m N) := by rw [nw_gn (by decide), nw_gn (by decide), hC.2.1]
        have hcl : f_L_addEdge σ (nI i) (nI j) (nI l) = some ((0 : Int32), jv_sl τ 61 0 (nI (nw_m N)).toInt64) := by
          unfold f_L_addEdge f_X7_addEdge f_X3_hasRoom f_X3_append f_X7_endDraws
          rw [e1, nw_xeO, r3, nw_xeO, hC.2.1, if_neg (show ¬ (24 : Int32) ≤ nI (nw_m N) from nI_ge (b := 24) cm (by omega)), nw_lt, if_pos rfl, nw_lt, h17, nw_wr (n := 24) cm (by omega), nw_wr (n := 24) cm (by omega), nw_wr (n := 24) cm (by omega), nw_gn (by decide), nw_gn (by decide), nw_gn (by decide), h17, nI_1, g1]
          rfl
        have hf35 : ∀ a, (jv_sl τ 61 0 (nI (nw_m N)).toInt64).1 35 a = σ.1 35 a := fun a => by
          rw [nw_h1, (g2.lng (k := 35) (fun _ => rfl)).1, nw_gn (by decide), nw_gn (by decide), nw_gn (by decide), nw_gn (by decide), nw_gn (by decide), nw_gn (by decide)]
        have hrf : f_X8_addEdge (jv_sl τ 61 0 (nI (nw_m N)).toInt64) (nI i) (nI j) (nI l) = some (nI (nw_m N), jv_si (jv_si (jv_si (jv_si (jv_si (jv_si (jv_si (jv_si (jv_sl τ 61 0 (nI (nw_m N)).toInt64) 35 0 (0 : Int32)) 36 (nw_m N) (nI i)) 37 (nw_m N) (nI j)) 38 (nw_m N) (nI l)) 39 (nw_m N) (0 : Int32)) 35 2 (nI (nw_m N + 1))) 35 9 (0 : Int32)) 35 23 (0 : Int32)) := by
          unfold f_X8_addEdge
          rw [if_pos (e2 _ (by rw [hf35]; exact hM.1)), if_pos (r4 _), hf35, hM.2.1, if_neg (show ¬ nI (nw_m N) = (24 : Int32) from fun e => by have := (nI_eq (b := 24) (by omega) (by omega)).mp e; omega), nw_lt, nw_h0, nw_lt, if_pos rfl]
          have e35 : (jv_si (jv_sl τ 61 0 (nI (nw_m N)).toInt64) 35 0 (0 : Int32)).1 35 2 = nI (nw_m N) := by rw [nw_gj (by decide), hf35, hM.2.1]
          dsimp only
          rw [e35, nw_ck cm (by omega), if_pos rfl, if_pos rfl, if_pos rfl, if_pos rfl, nI_clamp (by omega), nI_1, nw_lt]
          unfold f_X8_isChanged
          rw [nw_gj (by decide), nw_gj (by decide), nw_gs, nI_pred]
        rw [hcl, nw_bd, hrf, nw_bd]
        refine ⟨_, nw_finO (x := nI (nw_m N)) (by simp [nw_g]; rfl) ?_ rfl, nw_chg (N' := N') hW' ((nw_p67 g2 hC').keep (fun k a hk' => ?_)) (g3.keep ?_ ?_) ⟨?_, ?_, fun e he => ⟨?_, ?_, ?_, ?_⟩, fun v hv => ?_, fun e he f hf => ?_⟩ (fun v hv => ?_) ?_ ?_ ?_ ?_⟩
        · rw [nw_g2, nw_g2, nw_g2, nw_g2, nw_g2, nw_g2, nw_g2, nw_g2, nw_hs]
        · simp only [nw_pC, Bool.or_eq_true, Bool.and_eq_true, beq_iff_eq] at hk'
          rw [nw_gn (by omega), nw_gn (by omega), nw_gn (by omega), nw_gn (by omega), nw_gn (by omega), nw_gn (by omega), nw_gn (by omega), nw_gn (by omega), nw_h1]
        · rw [nw_gn (by decide), nw_gn (by decide), nw_gn (by decide), nw_gn (by decide), nw_gn (by decide), nw_gn (by decide), nw_gn (by decide), nw_gn (by decide), nw_h1]
        · rw [nw_gn (by decide), nw_gn (by decide), nw_gn (by decide), nw_gn (by decide), nw_gn (by decide), nw_gn (by decide), nw_gn (by decide), nw_gn (by decide), nw_h1]
        · rw [nw_gj (by decide), nw_gj (by decide), nw_gj (by decide), nw_gn (by decide), nw_gn (by decide), nw_gn (by decide), nw_gn (by decide), nw_gj (by decide), hf35, hM.1]; rfl
        · rw [nw_gj (by decide), nw_gj (by decide), nw_gs]; rfl
        · rw [nw_gn (by decide), nw_gn (by decide), nw_gn (by decide), nw_gn (by decide), nw_gn (by decide), nw_gn (by decide), et]
          by_cases c1 : e = nw_m N
          · rw [c1, nw_gs, nw_u1s]
          · rw [nw_gj c1, nw_u1n c1, nw_gn (by decide), nw_h1, (g2.lng (k := 36) (fun _ => rfl)).1, nw_gn (by decide), nw_gn (by decide), nw_gn (by decide), nw_gn (by decide), nw_gn (by decide), nw_gn (by decide), (hM.2.2.1 e (by rw [em] at he; omega)).1]
        · rw [nw_gn (by decide), nw_gn (by decide), nw_gn (by decide), nw_gn (by decide), nw_gn (by decide), ee]
          by_cases c1 : e = nw_m N
          · rw [c1, nw_gs, nw_u1s]
          · rw [nw_gj c1, nw_u1n c1, nw_gn (by decide), nw_gn (by decide), nw_h1, (g2.lng (k := 37) (fun _ => rfl)).1, nw_gn (by decide), nw_gn (by decide), nw_gn (by decide), nw_gn (by decide), nw_gn (by decide), nw_gn (by decide), (hM.2.2.1 e (by rw [em] at he; omega)).2.1]
        · rw [nw_gn (by decide), nw_gn (by decide), nw_gn (by decide), nw_gn (by decide), el]
          by_cases c1 : e = nw_m N
          · rw [c1, nw_gs, nw_u1s]
          · rw [nw_gj c1, nw_u1n c1, nw_gn (by decide), nw_gn (by decide), nw_gn (by decide), nw_h1, (g2.lng (k := 38) (fun _ => rfl)).1, nw_gn (by decide), nw_gn (by decide), nw_gn (by decide), nw_gn (by decide), nw_gn (by decide), nw_gn (by decide), (hM.2.2.1 e (by rw [em] at he; omega)).2.2.1]
        · rw [nw_gn (by decide), nw_gn (by decide), nw_gn (by decide)]
          show _ = jv_b (nw_ce N e)
          by_cases c1 : e = nw_m N
          · rw [c1, nw_gs, hW.2.2.2.2 _ (Nat.le_refl _)]; rfl
          · rw [nw_gj c1, nw_gn (by decide), nw_gn (by decide), nw_gn (by decide), nw_gn (by decide), nw_h1, (g2.lng (k := 39) (fun _ => rfl)).1, nw_gn (by decide), nw_gn (by decide), nw_gn (by decide), nw_gn (by decide), nw_gn (by decide), nw_gn (by decide), (hM.2.2.1 e (by rw [em] at he; omega)).2.2.2]
        · rw [nw_gn (by decide), nw_gn (by decide), nw_gn (by decide), nw_gn (by decide), nw_gn (by decide), nw_gn (by decide), nw_gn (by decide), nw_gn (by decide), nw_h1, (g2.lng (k := 40) (fun _ => rfl)).1, nw_gn (by decide), nw_gn (by decide), nw_gn (by decide), nw_gn (by decide), nw_gn (by decide), nw_gn (by decide), hM.2.2.2.1 v hv]; rfl
        · rw [nw_gn (by decide), nw_gn (by decide), nw_gn (by decide), nw_gn (by decide), nw_gn (by decide), nw_gn (by decide), nw_gn (by decide), nw_gn (by decide), nw_h1, (g2.lng (k := 41) (fun _ => rfl)).1, nw_gn (by decide), nw_gn (by decide), nw_gn (by decide), nw_gn (by decide), nw_gn (by decide), nw_gn (by decide), hM.2.2.2.2 e he f hf]; rfl
        · rw [nw_gn (by decide), nw_gn (by decide), nw_gn (by decide), nw_gn (by decide), nw_gn (by decide), nw_gn (by decide), nw_gn (by decide), nw_gn (by decide), nw_h1, (g2.lng (k := 27) (fun _ => rfl)).1, nw_gn (by decide), nw_gn (by decide), nw_gn (by decide), nw_gn (by decide), nw_gn (by decide), nw_gn (by decide), h27 v hv]
        · rw [nw_gn (by decide), nw_gn (by decide), nw_gn (by decide), nw_gn (by decide), nw_gn (by decide), nw_gn (by decide), nw_gn (by decide), nw_gn (by decide), nw_h1, (g2.lng (k := 0) (fun _ => rfl)).1]; simp [nw_g]
        · rw [nw_gn (by decide), nw_gn (by decide), nw_gn (by decide), nw_gn (by decide), nw_gn (by decide), nw_gn (by decide), nw_gn (by decide), nw_gn (by decide), nw_h1, (g2.lng (k := 0) (fun _ => rfl)).1]; simp [nw_g]
        · simp [nw_g]
        · simp [nw_g]
      · have hm24 : nw_m N = 24 := by omega
        refine nw_fin1 h (k := 2) (z := 0) (B := fun s => f_X8_addEdge s (nI i) (nI j) (nI l)) (Or.inr rfl) ?_ ?_
        · unfold f_L_addEdge f_X7_addEdge f_X3_hasRoom
          rw [e1, nw_xeO, r3, nw_xeO, hC.2.1, hm24, if_pos (show (24 : Int32) ≤ nI 24 from nI_le (Nat.le_refl _) (by omega))]
          rfl
        · unfold f_X8_addEdge
          rw [if_pos (e2 _ hM.1), if_pos (r4 _), hM.2.1, hm24, if_pos (show nI 24 = (24 : Int32) from rfl), nw_lt, nw_hk (show (2 : Int32) ≠ 0 by decide)]
          rfl
    · refine herr ?_ ?_
      · unfold f_L_addEdge f_X7_addEdge
        rw [e1, nw_xeO, r3]
        rfl
      · unfold f_X8_addEdge
        rw [if_pos (e2 _ hM.1), if_neg (by rw [r4]; decide), nw_lt, nw_hk (show (1 : Int32) ≠ 0 by decide)]
        rfl
  · refine herr ?_ ?_
    · unfold f_L_addEdge f_X7_addEdge
      rw [e1]
      rfl
    · unfold f_X8_addEdge
      rw [if_neg (by rw [e2 _ hM.1]; decide), nw_lt, nw_hk (show (1 : Int32) ≠ 0 by decide)]
      rfl
theorem nw_q2 (h : nw_all N c σ) (p r : Int32) : ∃ τ, jv_bd (f_L_setLength σ p r) (fun q3 => jv_bd (f_X8_setLength q3.2 p r) (fun q6 => nw_fin q3.1 q6)) = some τ ∧ nw_I (c + 1) τ := by
  obtain ⟨⟨hW, hC, hD, hM, h27⟩, -, -⟩ := id h
  have hn := hW.n
  have herr : f_L_setLength σ p r = some ((1 : Int32), σ) → f_X8_setLength σ p r = some (0, jv_si σ 35 0 (1 : Int32)) → ∃ τ, jv_bd (f_L_setLength σ p r) (fun q3 => jv_bd (f_X8_setLength q3.2 p r) (fun q6 => nw_fin q3.1 q6)) = some τ ∧ nw_I (c + 1) τ := fun h1 h2 => nw_fin1 h (k := 1) (z := 0) (B := fun s => f_X8_setLength s p r) (Or.inl rfl) h1 h2
  rcases nw_edge h.1 p with ⟨i, hi, rfl, e1, e2⟩ | ⟨e1, e2⟩
  · rcases nw_range (σ := σ) r (1 : Int32) (1000 : Int32) with ⟨r1, r2, r3, r4⟩ | ⟨r3, r4⟩
    · obtain ⟨l, rfl, hl1, hl2⟩ := nw_rng (lo := 1) (hi := 1000) (by omega) (by omega) r1 r2
      let N' : nw_N := ((nw_n N, nw_m N), (nw_t N, nw_e N, nw_u1 (nw_l N) i l), nw_ce N, nw_cn N, nw_fb N)
      have el : ∀ e, nw_l N' e = nw_u1 (nw_l N) i l e := fun _ => rfl
      have hW' : nw_W N' := ⟨hn.1, hn.2.1, hn.2.2, fun e he => by
        rw [el]
        show nw_t N e < nw_n N ∧ nw_e N e < nw_n N ∧ nw_t N e ≠ nw_e N e ∧ _
        have := hW.e (show e < nw_m N from he)
        by_cases c1 : e = i
        · rw [c1] at this ⊢; rw [nw_u1s]; omega
        · rw [nw_u1n c1]; omega, hW.2.2.2.2⟩
      have hb := hW.e hi
      have hcl : f_L_setLength σ (nI i) (nI l) = some ((0 : Int32), jv_sl (jv_si (jv_si (jv_si σ 0 7 (0 : Int32)) 0 8 (0 : Int32)) 4 i (nI l)) 61 0 (nI (nw_l N i)).toInt64) := by
        unfold f_L_setLength f_X7_setLength f_X7_requireEdge f_X3_changeLength f_X7_endDraws f_X3_lengthOf
        rw [if_pos e1, nw_xeO, r3, nw_xeO]
        show some ((0 : Int32), jv_sl (jv_wr (jv_si (jv_si σ 0 7 (0 : Int32)) 0 8 (0 : Int32)) 4 24 (nI i) (nI l)) 61 0 (jv_rd ((jv_si (jv_si σ 0 7 (0 : Int32)) 0 8 (0 : Int32)).1 4) 24 (0 : Int32) (nI i)).toInt64) = _
        rw [nw_rd (n := 24) (by omega) (by omega), nw_gn (by decide), nw_gn (by decide), (hC.2.2.1 i hi).2.2, nw_wr (n := 24) (by omega) (by omega)]
      have hf35 : ∀ k a, k ≠ 0 → k ≠ 4 → (jv_sl (jv_si (jv_si (jv_si σ 0 7 (0 : Int32)) 0 8 (0 : Int32)) 4 i (nI l)) 61 0 (nI (nw_l N i)).toInt64).1 k a = σ.1 k a := fun k a h1 h2 => by
        rw [nw_h1, nw_gn h2, nw_gn h1, nw_gn h1]
      have hrf : f_X8_setLength (jv_sl (jv_si (jv_si (jv_si σ 0 7 (0 : Int32)) 0 8 (0 : Int32)) 4 i (nI l)) 61 0 (nI (nw_l N i)).toInt64) (nI i) (nI l) = some (nI (nw_l N i), jv_si (jv_si (jv_si (jv_si (jv_sl (jv_si (jv_si (jv_si σ 0 7 (0 : Int32)) 0 8 (0 : Int32)) 4 i (nI l)) 61 0 (nI (nw_l N i)).toInt64) 35 0 (0 : Int32)) 38 i (nI l)) 35 9 (0 : Int32)) 35 23 (0 : Int32)) := by
        unfold f_X8_setLength
        rw [if_pos (e2 _ (by rw [hf35 _ _ (by decide) (by decide)]; exact hM.2.1)), if_pos (r4 _), nw_lt, show jv_b false = (0 : Int32) from rfl, nw_h0, nw_lt, if_pos rfl, nw_ck (by omega) (by omega), if_pos rfl, if_pos rfl, nI_clamp (by omega), nw_lt]
        show some ((jv_si (jv_sl (jv_si (jv_si (jv_si σ 0 7 (0 : Int32)) 0 8 (0 : Int32)) 4 i (nI l)) 61 0 (nI (nw_l N i)).toInt64) 35 0 (0 : Int32)).1 38 i, _) = _
        rw [nw_gn (by decide), hf35 _ _ (by decide) (by decide), (hM.2.2.1 i hi).2.2.1]
        rfl
      rw [hcl, nw_bd, hrf, nw_bd]
      have hk : ∀ k a, k ≠ 0 → k ≠ 4 → k ≠ 35 → k ≠ 38 → (jv_si (jv_si (jv_si (jv_si (jv_sl (jv_si (jv_si (jv_si σ 0 7 (0 : Int32)) 0 8 (0 : Int32)) 4 i (nI l)) 61 0 (nI (nw_l N i)).toInt64) 35 0 (0 : Int32)) 38 i (nI l)) 35 9 (0 : Int32)) 35 23 (0 : Int32)).1 k a = σ.1 k a := fun k a h1 h2 h3 h4 => by
        rw [nw_gn h3, nw_gn h3, nw_gn h4, nw_gn h3, hf35 k a h1 h2]
      have hk0 : ∀ k, k ≠ 0 → k ≠ 4 → k ≠ 35 → k ≠ 38 → (jv_si (jv_si (jv_si (jv_si (jv_sl (jv_si (jv_si (jv_si σ 0 7 (0 : Int32)) 0 8 (0 : Int32)) 4 i (nI l)) 61 0 (nI (nw_l N i)).toInt64) 35 0 (0 : Int32)) 38 i (nI l)) 35 9 (0 : Int32)) 35 23 (0 : Int32)).1 k = σ.1 k := fun k h1 h2 h3 h4 => funext fun a => hk k a h1 h2 h3 h4
      refine ⟨_, nw_finO (x := nI (nw_l N i)) (by simp [nw_g]; rfl) (by rw [nw_g2, nw_g2, nw_g2, nw_g2, nw_hs]) rfl, nw_chg (N' := N') hW' ⟨?_, ?_, fun e he => ⟨?_, ?_, ?_⟩, fun e he => ?_, fun v hv => ?_, fun e he f hf => ?_⟩ ⟨?_, ?_⟩ ⟨?_, ?_, fun e he => ⟨?_, ?_, ?_, ?_⟩, fun v hv => ?_, fun e he f hf => ?_⟩ (fun v hv => ?_) ?_ ?_ ?_ ?_⟩
      · rw [hk 1 6 (by decide) (by decide) (by decide) (by decide)]; exact hC.1
      · rw [hk 1 7 (by decide) (by decide) (by decide) (by decide)]; exact hC.2.1
      · rw [hk 2 e (by decide) (by decide) (by decide) (by decide)]; exact (hC.2.2.1 e he).1
      · rw [hk 3 e (by decide) (by decide) (by decide) (by decide)]; exact (hC.2.2.1 e he).2.1
      · rw [nw_gn (by decide), nw_gn (by decide), nw_gn (by decide), nw_gn (by decide), nw_h1, el]
        by_cases c1 : e = i
        · rw [c1, nw_gs, nw_u1s]
        · rw [nw_gj c1, nw_u1n c1, nw_gn (by decide), nw_gn (by decide)]; exact (hC.2.2.1 e he).2.2
      · rw [hk 1 9 (by decide) (by decide) (by decide) (by decide)]; exact hC.2.2.2.1 e he
      · rw [hk 1 8 (by decide) (by decide) (by decide) (by decide)]; exact hC.2.2.2.2.1 v hv
      · rw [hk 5 e (by decide) (by decide) (by decide) (by decide)]; exact hC.2.2.2.2.2 e he f hf
      · rw [hk0 7 (by decide) (by decide) (by decide) (by decide)]; exact hD.1
      · rw [hk0 6 (by decide) (by decide) (by decide) (by decide)]; exact hD.2
      · rw [nw_gj (by decide), nw_gj (by decide), nw_gn (by decide), nw_gj (by decide), hf35 _ _ (by decide) (by decide)]; exact hM.1
      · rw [nw_gj (by decide), nw_gj (by decide), nw_gn (by decide), nw_gj (by decide), hf35 _ _ (by decide) (by decide)]; exact hM.2.1
      · rw [hk 36 e (by decide) (by decide) (by decide) (by decide)]; exact (hM.2.2.1 e he).1
      · rw [hk 37 e (by decide) (by decide) (by decide) (by decide)]; exact (hM.2.2.1 e he).2.1
      · rw [nw_gn (by decide), nw_gn (by decide), el]
        by_cases c1 : e = i
        · rw [c1, nw_gs, nw_u1s]
        · rw [nw_gj c1, nw_u1n c1, nw_gn (by decide), hf35 _ _ (by decide) (by decide)]; exact (hM.2.2.1 e he).2.2.1
      · rw [hk 39 e (by decide) (by decide) (by decide) (by decide)]; exact (hM.2.2.1 e he).2.2.2
      · rw [hk 40 v (by decide) (by decide) (by decide) (by decide)]; exact hM.2.2.2.1 v hv
      · rw [hk 41 _ (by decide) (by decide) (by decide) (by decide)]; exact hM.2.2.2.2 e he f hf
      · rw [hk 27 _ (by decide) (by decide) (by decide) (by decide)]; exact h27 v hv
      · simp [nw_g, nw_h1]
      · simp [nw_g, nw_h1]
      · simp [nw_g]
      · simp [nw_g]
    · refine herr ?_ ?_
      · unfold f_L_setLength f_X7_setLength f_X7_requireEdge
        rw [if_pos e1, nw_xeO, r3]
        rfl
      · unfold f_X8_setLength
        rw [if_pos (e2 _ hM.2.1), if_neg (by rw [r4]; decide), nw_lt, show jv_b true = (1 : Int32) from rfl, nw_hk (show (1 : Int32) ≠ 0 by decide)]
        rfl
  · refine herr ?_ ?_
    · unfold f_L_setLength f_X7_setLength f_X7_requireEdge
      rw [if_neg (by rw [e1]; decide)]
      rfl
    · unfold f_X8_setLength
      rw [if_neg (by rw [e2 _ hM.2.1]; decide), nw_lt, show jv_b true = (1 : Int32) from rfl, nw_hk (show (1 : Int32) ≠ 0 by decide)]
      rfl
end NWCH
