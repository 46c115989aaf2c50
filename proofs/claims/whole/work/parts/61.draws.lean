/-! ===== the draws started, and drawn ===== -/
def nw_pD1 (k j : Nat) : Bool := (k == 0 && j == 7) || (k == 10 || k == 11 || k == 13) || (k == 35 && (j == 0 || j == 9 || j == 10 || j == 11 || j == 12 || j == 13 || j == 14 || j == 21 || j == 22)) || (k == 42 || k == 43 || k == 44 || k == 45 || k == 46 || k == 47) || k == 61
def nw_pD2 (k j : Nat) : Bool := (k == 0 && j == 8) || (k == 17 || k == 18 || k == 19 || k == 20 || k == 21 || k == 22 || k == 23) || (k == 35 && (j == 0 || j == 23 || j == 24 || j == 25 || j == 26 || j == 27 || j == 33)) || (k == 48 || k == 49 || k == 50 || k == 51 || k == 52) || k == 61
theorem nw_pD1_C (k j : Nat) (h : nw_pC k j = true) : nw_pD1 k j = false := by
  simp only [nw_pC, nw_pD1, Bool.or_eq_true, Bool.and_eq_true, beq_iff_eq, Bool.or_eq_false_iff, Bool.and_eq_false_iff, beq_eq_false_iff_ne] at h ⊢
  omega
theorem nw_pD1_M (k j : Nat) (h : nw_pM k j = true) : nw_pD1 k j = false := by
  simp only [nw_pM, nw_pD1, Bool.or_eq_true, Bool.and_eq_true, beq_iff_eq, Bool.or_eq_false_iff, Bool.and_eq_false_iff, beq_eq_false_iff_ne] at h ⊢
  omega
theorem nw_pD1_W (k j : Nat) (h : nw_dW k j = true) : nw_pD1 k j = false := by
  simp only [nw_dW, nw_pD1, Bool.or_eq_true, Bool.and_eq_true, beq_iff_eq, Bool.or_eq_false_iff, Bool.and_eq_false_iff, beq_eq_false_iff_ne] at h ⊢
  omega
theorem nw_pD2_C (k j : Nat) (h : nw_pC k j = true) : nw_pD2 k j = false := by
  simp only [nw_pC, nw_pD2, Bool.or_eq_true, Bool.and_eq_true, beq_iff_eq, Bool.or_eq_false_iff, Bool.and_eq_false_iff, beq_eq_false_iff_ne] at h ⊢
  omega
theorem nw_pD2_M (k j : Nat) (h : nw_pM k j = true) : nw_pD2 k j = false := by
  simp only [nw_pM, nw_pD2, Bool.or_eq_true, Bool.and_eq_true, beq_iff_eq, Bool.or_eq_false_iff, Bool.and_eq_false_iff, beq_eq_false_iff_ne] at h ⊢
  omega
theorem nw_pD2_P (k j : Nat) (h : nw_dP k j = true) : nw_pD2 k j = false := by
  simp only [nw_dP, nw_pD2, Bool.or_eq_true, Bool.and_eq_true, beq_iff_eq, Bool.or_eq_false_iff, Bool.and_eq_false_iff, beq_eq_false_iff_ne] at h ⊢
  omega
theorem nw_pD1A {σ τ : jv_S} (h : nw_f nw_pA σ τ) : nw_f nw_pD1 σ τ := h.mono (fun k j h => by
  simp only [nw_pA, nw_pD1, Bool.or_eq_true, Bool.and_eq_true, beq_iff_eq, Bool.or_eq_false_iff, Bool.and_eq_false_iff, beq_eq_false_iff_ne] at h ⊢
  omega)
theorem nw_pD1R {σ τ : jv_S} (h : nw_f nw_pR σ τ) : nw_f nw_pD1 σ τ := h.mono (fun k j h => by
  simp only [nw_pR, nw_pD1, Bool.or_eq_true, Bool.and_eq_true, beq_iff_eq, Bool.or_eq_false_iff, Bool.and_eq_false_iff, beq_eq_false_iff_ne] at h ⊢
  omega)
theorem nw_pD2W {σ τ : jv_S} (h : nw_f nw_pW σ τ) : nw_f nw_pD2 σ τ := h.mono (fun k j h => by
  simp only [nw_pW, nw_pD2, Bool.or_eq_true, Bool.and_eq_true, beq_iff_eq, Bool.or_eq_false_iff, Bool.and_eq_false_iff, beq_eq_false_iff_ne] at h ⊢
  omega)
theorem nw_pD2V {σ τ : jv_S} (h : nw_f nw_pV σ τ) : nw_f nw_pD2 σ τ := h.mono (fun k j h => by
  simp only [nw_pV, nw_pD2, Bool.or_eq_true, Bool.and_eq_true, beq_iff_eq, Bool.or_eq_false_iff, Bool.and_eq_false_iff, beq_eq_false_iff_ne] at h ⊢
  omega)
theorem nw_pD2F {σ τ : jv_S} (h : nw_f nw_pF σ τ) : nw_f nw_pD2 σ τ := h.mono (fun k j h => by
  simp only [nw_pF, nw_pD2, Bool.or_eq_true, Bool.and_eq_true, beq_iff_eq, Bool.or_eq_false_iff, Bool.and_eq_false_iff, beq_eq_false_iff_ne] at h ⊢
  omega)
/-- the comparison of what was thrown alone -/
noncomputable def nw_fth (k : Int32) (τ : jv_S) : Option jv_S := if (f_X8_thrown τ) = k then (some τ) else (none)
theorem nw_fthO {k : Int32} {τ : jv_S} (h : τ.1 35 0 = k) : nw_fth k τ = some τ := if_pos h
section NWDR
variable {N : nw_N} {c : Nat} {σ : jv_S}
theorem nw_d1 (h : nw_all N c σ) (hc : c ≤ 600) {τ : jv_S} (hf : nw_f nw_pD1 σ τ) (hP : nw_IP N (c + 1) τ) : nw_I (c + 1) τ := ⟨N, h.1.keep hf nw_pD1_C nw_pD1_M (fun _ => rfl) (fun _ => rfl) (fun _ _ => rfl), hP, h.2.2.keep hf nw_pD1_W⟩
theorem nw_d2 (h : nw_all N c σ) {τ : jv_S} (hf : nw_f nw_pD2 σ τ) (hP : nw_IW N τ) : nw_I (c + 1) τ := ⟨N, h.1.keep hf nw_pD2_C nw_pD2_M (fun _ => rfl) (fun _ => rfl) (fun _ _ => rfl), h.2.1.keep (by omega) hf nw_pD2_P, hP⟩
theorem nw_q10 (h : nw_all N c σ) (hc : c ≤ 600) (p q : Int32) : ∃ τ, jv_bd (f_L_startPaths σ p q) (fun q3 => jv_lt (f_X8_startPaths q3.2 p q) (fun q6 => nw_fth q3.1 q6)) = some τ ∧ nw_I (c + 1) τ := by
  obtain ⟨hnet, -, -⟩ := id h
  have hn := hnet.1.n
  have hM := hnet.2.2.2.1
  rcases nw_two hnet p q with ⟨i, j, hi, hj, hne, rfl, rfl, e1, e2⟩ | ⟨e1, e2⟩
  · have hcl : f_L_startPaths σ (nI i) (nI j) = some ((0 : Int32), jv_si (f_X5_restart σ (nI i) (nI j)) 0 7 (1 : Int32)) := by
      unfold f_L_startPaths f_X7_startPaths
      rw [e1]
      rfl
    have hf1 : nw_f nw_pD1 σ (jv_si (f_X5_restart σ (nI i) (nI j)) 0 7 (1 : Int32)) := ((((((nw_f.rfl.si (by rfl)).si (by rfl)).si (by rfl)).sl (by rfl)).si (by rfl)).si (by rfl)).si (by rfl)
    have hM1 := hf1.keepM hM nw_pD1_M
    have hrf : f_X8_startPaths (jv_si (f_X5_restart σ (nI i) (nI j)) 0 7 (1 : Int32)) (nI i) (nI j) = jv_si (jv_si (jv_si (jv_si (jv_si (jv_si (jv_si (f_X5_restart σ (nI i) (nI j)) 0 7 (1 : Int32)) 35 0 (0 : Int32)) 35 9 (1 : Int32)) 35 10 (nI i)) 35 11 (nI j)) 35 12 (0 : Int32)) 35 13 (0 : Int32) := by
      unfold f_X8_startPaths
      rw [if_pos (e2 _ hM1.1), nw_lt, show jv_b false = (0 : Int32) from rfl, nw_h0, nw_lt, if_pos rfl]
      rfl
    rw [hcl, nw_bd, hrf, nw_lt]
    have hf2 := (((((hf1.si (k := 35) (j := 0) (x := (0 : Int32)) (by rfl)).si (k := 35) (j := 9) (x := (1 : Int32)) (by rfl)).si (k := 35) (j := 10) (x := nI i) (by rfl)).si (k := 35) (j := 11) (x := nI j) (by rfl)).si (k := 35) (j := 12) (x := (0 : Int32)) (by rfl)).si (k := 35) (j := 13) (x := (0 : Int32)) (by rfl)
    refine ⟨_, nw_fthO (by simp [nw_g]), nw_d1 h hc hf2 (Or.inr ⟨by simp [nw_g], by simp [nw_g], i, j, 0, 0, [], hi, hj, hne, by decide, by omega, ⟨[], 0, ?_, ?_, ?_, ?_, ⟨by simp, ?_, by simp, by simp⟩, ?_, by simp, ?_⟩, by simp [nw_g], by simp [nw_g], ⟨by simp [nw_g]; rfl, by omega, by simp [nw_g]; rfl, fun h => absurd h (Nat.lt_irrefl _), fun _ => ⟨rfl, rfl⟩⟩⟩)⟩
    · simp [nw_g, f_X5_restart, nw_h1]
    · simp [nw_g, f_X5_restart, nw_h1]
    · simp [nw_g, f_X5_restart, nw_h1]; rfl
    · simp [nw_g2, f_X5_restart, nw_hs]; rfl
    · simp [nw_g, f_X5_restart, nw_h1]; rfl
    · simp [nw_g, f_X5_restart, nw_h1]; rfl
    · exact ⟨by simp, by simp, fun p hp hc => Or.inr (by simp)⟩
  · have hcl : f_L_startPaths σ p q = some ((1 : Int32), σ) := by
      unfold f_L_startPaths f_X7_startPaths
      rw [e1]
      rfl
    have hrf : f_X8_startPaths σ p q = jv_si σ 35 0 (1 : Int32) := by
      unfold f_X8_startPaths
      rw [if_neg (by rw [e2 _ hM.1]; decide), nw_lt, show jv_b true = (1 : Int32) from rfl, nw_hk (by decide)]
      rfl
    rw [hcl, nw_bd, hrf, nw_lt]
    exact ⟨_, nw_fthO nw_gs, nw_scr h (by omega) (nw_f.rfl.si (by rfl))⟩
theorem nw_q11 (h : nw_all N c σ) (hc : c ≤ 600) : ∃ τ, jv_bd (f_L_nextPath σ) (fun q1 => jv_bd (f_X8_nextPath q1.2) (fun q2 => nw_fin q1.1 q2)) = some τ ∧ nw_I (c + 1) τ := by
  have hn := h.1.1.n
  have hM := h.1.2.2.2.1
  rcases h.2.1 with ⟨h1, h2⟩ | ⟨h1, h2, fr, to, cur, drawn, path, a1, a2, a3, a4, a5, a6, a7, a8, a9⟩
  · have hcl : f_L_nextPath σ = some ((1 : Int32), σ) := by
      unfold f_L_nextPath f_X7_nextPath f_X7_requireStarted; rw [h1]; rfl
    have hrf : f_X8_nextPath σ = some (0, jv_si (jv_si σ 35 21 (0 : Int32)) 35 0 (1 : Int32)) := by
      unfold f_X8_nextPath
      rw [h2, if_pos rfl, nw_bd]
      show jv_lt (if (jv_si σ 35 21 (0 : Int32)).1 35 9 = 0 then _ else _) _ = _
      rw [nw_gj (by decide), h2, if_pos rfl, nw_lt, nw_hk (show (1 : Int32) ≠ 0 by decide), nw_lt, if_neg (show ¬ false = true by decide)]
    rw [hcl, nw_bd, hrf, nw_bd]
    exact ⟨_, nw_finE (k := 1) (by omega) (by omega) nw_gs, nw_scr h (by omega) ((nw_f.rfl.si (by rfl)).si (by rfl))⟩
  · have hgm := nw_gm_ap h.1.1 (fr := fr) (to := to)
    rcases nw_adv h.1.1 h.1.2.1 h.1.2.2.1 (show fr < 10 by omega) (show to < 10 by omega) a3 a4 a6 with ⟨τ, p, g1, g2, g3, g4, g5, g6⟩ | ⟨τ, g1, g2, g3, g4⟩
    · obtain ⟨p1, p2, p3⟩ := hgm.1.2 p g3
      have hpm := hgm.2 p g3
      obtain ⟨pg, nx, b1, b2, b3, b4, b5⟩ := id g6
      have hcl : f_L_nextPath σ = some ((0 : Int32), jv_sl τ 61 0 (nI (nw_sl N p)).toInt64) := by
        unfold f_L_nextPath f_X7_nextPath f_X7_requireStarted
        rw [h1, if_neg (by decide), nw_xeO, g1, nw_bd, if_pos rfl, nw_curL h.1.1 p1 hpm b4]
        rfl
      have hf1 : nw_f nw_pD1 σ (jv_sl τ 61 0 (nI (nw_sl N p)).toInt64) := (nw_pD1A g2).sl (by rfl)
      have hM1 := hf1.keepM hM nw_pD1_M
      have h351 : ∀ j, (jv_sl τ 61 0 (nI (nw_sl N p)).toInt64).1 35 j = σ.1 35 j := fun j => by rw [nw_h1, (g2 35 j rfl).1]
      rcases nw_refnext h.1.1 hM1 (show fr < 10 by omega) (show to < 10 by omega) a3 (by rw [h351, h2]) (by rw [h351, a7]) (by rw [h351, a8]) (a9.keep (fun j _ => h351 j) (by rw [nw_h1, (g2.lng (k := 42) (fun _ => rfl)).1])) (by omega) with ⟨ρ, p', k1, k2, k3, k4, k5, k6, k7⟩ | ⟨ρ, k1, k2, k3, k4, k5⟩
      · have hpp : p = p' := nw_key_inj (N := N) hgm.1 g3 k4 (by have := g5 p' k4 k5; have := k6 p g3 g4; omega)
        subst hpp
        rw [hcl, nw_bd, k1, nw_bd]
        have hf2 := hf1.trans (nw_pD1R k3)
        refine ⟨_, nw_finO (x := nI (nw_sl N p)) k2 ?_ rfl, nw_d1 h hc hf2 (Or.inr ⟨?_, ?_, fr, to, nw_key N p, drawn + 1, p, a1, a2, a3, (nw_key_b h.1.1 p1 hpm).1, by omega, g6.keep (fun j _ => ?_) ?_ ?_, ?_, ?_, k7⟩)⟩
        · show ρ.2 61 0 = _
          rw [(k3 61 0 rfl).2, nw_hs]
        · show ρ.1 0 7 = 1
          rw [(k3 0 7 rfl).1, nw_h1, (g2 0 7 rfl).1, h1]
        · show ρ.1 35 9 = 1
          rw [(k3 35 9 rfl).1, h351, h2]
        · show ρ.1 10 j = τ.1 10 j
          rw [(k3 10 j rfl).1, nw_h1]
        · show ρ.2 10 8 = τ.2 10 8
          rw [(k3 10 8 rfl).2, nw_hn (by decide)]
        · show ρ.2 11 = τ.2 11
          rw [(k3.lng (k := 11) (fun _ => rfl)).2, nw_hn (by decide)]
        · show ρ.1 35 10 = _
          rw [(k3 35 10 rfl).1, h351, a7]
        · show ρ.1 35 11 = _
          rw [(k3 35 11 rfl).1, h351, a8]
      · exact absurd g4 (k4 p g3)
    · have hcl : f_L_nextPath σ = some ((2 : Int32), τ) := by
        unfold f_L_nextPath f_X7_nextPath f_X7_requireStarted
        rw [h1, if_neg (by decide), nw_xeO, g1, nw_bd, if_neg (show ¬ false = true by decide)]
        rfl
      have hf1 : nw_f nw_pD1 σ τ := nw_pD1A g2
      have hM1 := hf1.keepM hM nw_pD1_M
      have h351 : ∀ j, τ.1 35 j = σ.1 35 j := fun j => by rw [(g2 35 j rfl).1]
      rcases nw_refnext h.1.1 hM1 (show fr < 10 by omega) (show to < 10 by omega) a3 (by rw [h351, h2]) (by rw [h351, a7]) (by rw [h351, a8]) (a9.keep (fun j _ => h351 j) (by rw [(g2.lng (k := 42) (fun _ => rfl)).1])) (by omega) with ⟨ρ, p', k1, k2, k3, k4, k5, k6, k7⟩ | ⟨ρ, k1, k2, k3, k4, k5⟩
      · exact absurd k5 (g3 p' k4)
      · rw [hcl, nw_bd, k1, nw_bd]
        have hf2 := hf1.trans (nw_pD1R k3)
        refine ⟨_, nw_finE (k := 2) (by omega) (by omega) k2, nw_d1 h hc hf2 (Or.inr ⟨?_, ?_, fr, to, cur, drawn, path, a1, a2, a3, a4, by omega, g4.keep (fun j _ => ?_) ?_ ?_, ?_, ?_, k5⟩)⟩
        · show ρ.1 0 7 = 1
          rw [(k3 0 7 rfl).1, (g2 0 7 rfl).1, h1]
        · show ρ.1 35 9 = 1
          rw [(k3 35 9 rfl).1, h351, h2]
        · show ρ.1 10 j = τ.1 10 j
          rw [(k3 10 j rfl).1]
        · show ρ.2 10 8 = τ.2 10 8
          rw [(k3 10 8 rfl).2]
        · show ρ.2 11 = τ.2 11
          rw [(k3.lng (k := 11) (fun _ => rfl)).2]
        · show ρ.1 35 10 = _
          rw [(k3 35 10 rfl).1, h351, a7]
        · show ρ.1 35 11 = _
          rw [(k3 35 11 rfl).1, h351, a8]
/-- the class begins to draw walks -/
theorem nw_wrest (hW : nw_W N) {i j : Nat} (hj : j < 10) : nw_f nw_pW σ (f_X6_restart σ (nI i) (nI j)) ∧ nw_WC N i j 0 (f_X6_restart σ (nI i) (nI j)) := by
  have hdef : f_X6_restart σ (nI i) (nI j) = jv_si (jv_si (jv_si (jv_si (jv_si (jv_fl (jv_fl (jv_si (jv_si σ 17 7 (nI i)) 17 8 (0 : Int32)) 22 10 (0 : Int32)) 23 24 (0 : Int32)) 18 (j * 50) (0 : Int32)) 19 (j * 50) (0 : Int32)) 20 (j * 50) (-1 : Int32)) 21 (j * 50) (0 : Int32)) 22 j (nI 1) := by
    unfold f_X6_restart f_X6_list
    have e22 : (jv_fl (jv_fl (jv_si (jv_si σ 17 7 (nI i)) 17 8 (0 : Int32)) 22 10 (0 : Int32)) 23 24 (0 : Int32)).1 22 j = nI 0 := by rw [nw_fln (by decide), nw_fl, if_pos hj]; rfl
    have e1 : ∀ σ : jv_S, f_X6_entry σ (nI j) (nI 0) = nI (j * 50) := fun σ => by
      unfold f_X6_entry
      rw [show (50 : Int32) = nI 50 from rfl, pk_mul, nI_add, Nat.add_zero]
    rw [nw_rd (n := 10) hj (by omega), e22, e1, nw_wr (n := 500) (by omega) (by omega), nw_wr (n := 500) (by omega) (by omega), nw_wr (n := 500) (by omega) (by omega), nw_wr (n := 500) (by omega) (by omega), nw_gn (by decide), nw_gn (by decide), nw_gn (by decide), nw_gn (by decide), nw_rd (n := 10) hj (by omega), e22, nI_1, nw_wr (n := 10) hj (by omega)]
    rfl
  rw [hdef]
  refine ⟨((((((((nw_f.rfl.si (by rfl)).si (by rfl)).fl (fun _ => rfl)).fl (fun _ => rfl)).si (by rfl)).si (by rfl)).si (by rfl)).si (by rfl)).si (by rfl), ?_, ?_, fun v => if v = j then 1 else 0, 1, ⟨fun _ _ => 0, fun _ => 0, fun _ _ => 0, fun _ _ => 0, fun _ _ => 0, 0, nw_L0 hj rfl rfl, ⟨fun v hv => ?_, fun e he => ?_, fun v hv r hr => ?_⟩, ?_⟩, by omega, ?_⟩
  · rw [nw_gn (by decide), nw_gn (by decide), nw_gn (by decide), nw_gn (by decide), nw_gn (by decide), nw_fln (by decide), nw_fln (by decide), nw_gj (by decide), nw_gs]
  · rw [nw_gn (by decide), nw_gn (by decide), nw_gn (by decide), nw_gn (by decide), nw_gn (by decide), nw_fln (by decide), nw_fln (by decide), nw_gs]; rfl
  · by_cases e : v = j
    · show _ = nI (if v = j then 1 else 0)
      rw [e, nw_gs, if_pos rfl]
    · show _ = nI (if v = j then 1 else 0)
      rw [nw_gj e, if_neg e, nw_gn (by decide), nw_gn (by decide), nw_gn (by decide), nw_gn (by decide), nw_fln (by decide), nw_fl, if_pos hv]; rfl
  · rw [nw_gn (by decide), nw_gn (by decide), nw_gn (by decide), nw_gn (by decide), nw_gn (by decide), nw_fl, if_pos he]; rfl
  · have hr' : r < if v = j then 1 else 0 := hr
    by_cases e : v = j
    · rw [if_pos e] at hr'
      have hr0 : r = 0 := by omega
      subst hr0; subst e
      refine ⟨?_, ?_, fun h => absurd h (Nat.lt_irrefl _), Nat.zero_le _, ?_⟩
      · rw [Nat.add_zero, nw_gn (by decide), nw_gn (by decide), nw_gn (by decide), nw_gn (by decide), nw_gs]; rfl
      · rw [Nat.add_zero, nw_gn (by decide), nw_gn (by decide), nw_gn (by decide), nw_gs]; rfl
      · rw [nw_S_one hj]; omega
    · rw [if_neg e] at hr'; omega
  · rw [nw_S_one hj]
  · exact Nat.zero_le _
theorem nw_q16 (h : nw_all N c σ) (p q : Int32) : ∃ τ, jv_bd (f_L_startWalks σ p q) (fun q3 => jv_bd (f_X8_startWalks q3.2 p q) (fun q6 => nw_fth q3.1 q6)) = some τ ∧ nw_I (c + 1) τ := by
  obtain ⟨hnet, -, -⟩ := id h
  have hn := hnet.1.n
  have hM := hnet.2.2.2.1
  rcases nw_nodes2 hnet p q with ⟨i, j, hi, hj, rfl, rfl, e1, e2⟩ | ⟨e1, e2⟩
  · obtain ⟨g1, g2⟩ := nw_wrest (σ := σ) hnet.1 (i := i) (show j < 10 by omega)
    have hcl : f_L_startWalks σ (nI i) (nI j) = some ((0 : Int32), jv_si (f_X6_restart σ (nI i) (nI j)) 0 8 (1 : Int32)) := by
      unfold f_L_startWalks f_X7_startWalks
      rw [e1]
      rfl
    have hf1 : nw_f nw_pD2 σ (jv_si (f_X6_restart σ (nI i) (nI j)) 0 8 (1 : Int32)) := (nw_pD2W g1).si (by rfl)
    have hM1 := hf1.keepM hM nw_pD2_M
    have hf2 := (((((hf1.si (k := 35) (j := 0) (x := (0 : Int32)) (by rfl)).si (k := 35) (j := 23) (x := (1 : Int32)) (by rfl)).si (k := 35) (j := 24) (x := nI i) (by rfl)).si (k := 35) (j := 25) (x := nI j) (by rfl)).si (k := 35) (j := 26) (x := (0 : Int32)) (by rfl)).si (k := 35) (j := 27) (x := (0 : Int32)) (by rfl)
    obtain ⟨ρ, cnt, ln, k1, k2, k3, k4⟩ := nw_firsts hnet.1 (hf2.keepM hM nw_pD2_M) (show j < 10 by omega)
    have hrf : f_X8_startWalks (jv_si (f_X6_restart σ (nI i) (nI j)) 0 8 (1 : Int32)) (nI i) (nI j) = some ρ := by
      unfold f_X8_startWalks
      rw [if_pos (e2 _ hM1.1), nw_lt, show jv_b false = (0 : Int32) from rfl, nw_h0, nw_lt, if_pos rfl, k1]
      rfl
    rw [hcl, nw_bd, hrf, nw_bd]
    have hk35 : ∀ j, j ≠ 33 → ρ.1 35 j = (jv_si (jv_si (jv_si (jv_si (jv_si (jv_si (jv_si (f_X6_restart σ (nI i) (nI j)) 0 8 (1 : Int32)) 35 0 (0 : Int32)) 35 23 (1 : Int32)) 35 24 (nI i)) 35 25 (nI j)) 35 26 (0 : Int32)) 35 27 (0 : Int32)).1 35 j → True := fun _ _ _ => trivial
    refine ⟨_, nw_fthO ?_, nw_d2 h (hf2.trans (nw_pD2F k2)) (Or.inr ⟨?_, ?_, i, j, 0, hi, hj, by omega, g2.keep (fun a _ => ?_) (fun k h1 h2 => ?_), ⟨?_, ?_, ⟨cnt, ln, k3, k4, Nat.zero_le _⟩, fun _ => ?_, fun d hd => by omega⟩⟩)⟩
    · rw [(k2 35 0 rfl).1]; simp [nw_g]
    · rw [(k2 0 8 rfl).1]; simp [nw_g]
    · rw [(k2 35 23 rfl).1]; simp [nw_g]
    · rw [(k2 17 a rfl).1, nw_gn (by decide), nw_gn (by decide), nw_gn (by decide), nw_gn (by decide), nw_gn (by decide), nw_gn (by decide), nw_gn (by decide)]
    · rw [(k2.lng (k := k) (fun j => by
        have : k = 18 ∨ k = 19 ∨ k = 20 ∨ k = 21 ∨ k = 22 ∨ k = 23 := by omega
        rcases this with rfl | rfl | rfl | rfl | rfl | rfl <;> rfl)).1, nw_gn (by omega), nw_gn (by omega), nw_gn (by omega), nw_gn (by omega), nw_gn (by omega), nw_gn (by omega), nw_gn (by omega)]
    · rw [(k2 35 24 rfl).1]; simp [nw_g]
    · rw [(k2 35 26 rfl).1]; simp [nw_g]; rfl
    · rw [(k2 35 27 rfl).1]; simp [nw_g]; rfl
  · have hcl : f_L_startWalks σ p q = some ((1 : Int32), σ) := by
      unfold f_L_startWalks f_X7_startWalks
      rw [e1]
      rfl
    have hrf : f_X8_startWalks σ p q = some (jv_si σ 35 0 (1 : Int32)) := by
      unfold f_X8_startWalks
      rw [if_neg (by rw [e2 _ hM.1]; decide), nw_lt, show jv_b true = (1 : Int32) from rfl, nw_hk (by decide)]
      rfl
    rw [hcl, nw_bd, hrf, nw_bd]
    exact ⟨_, nw_fthO nw_gs, nw_scr h (by omega) (nw_f.rfl.si (by rfl))⟩
theorem nw_q17 (h : nw_all N c σ) : ∃ τ, jv_bd (f_L_nextWalk σ) (fun q1 => jv_bd (f_X8_nextWalk q1.2) (fun q2 => nw_fin q1.1 q2)) = some τ ∧ nw_I (c + 1) τ := by
  have hn := h.1.1.n
  have hM := h.1.2.2.2.1
  rcases h.2.2 with ⟨h1, h2⟩ | ⟨h1, h2, fr, to, drawn, a1, a2, a3, a4, a5⟩
  · refine nw_fin1 h (k := 1) (z := 0) (B := fun s => f_X8_nextWalk s) (Or.inl rfl) ?_ ?_
    · unfold f_L_nextWalk f_X7_nextWalk f_X7_requireStarted; rw [h1]; rfl
    · unfold f_X8_nextWalk; rw [h2]; rfl
  · by_cases c50 : drawn < 50
    · rcases nw_wadv h.1.1 (show to < 10 by omega) (show fr < 10 by omega) c50 h.1.2.1 h.1.2.2.1 a4 with ⟨τ, g1, g2, g3⟩ | ⟨τ, g1, g2, g3, g4⟩
      · obtain ⟨p, L, w1, w2, w3, w4, w5, w6, w7, w8⟩ := nw_wcur h.1.1 (show fr < 10 by omega) g3
        have hcl : f_L_nextWalk σ = some ((0 : Int32), jv_sl τ 61 0 (nI L).toInt64) := by
          unfold f_L_nextWalk f_X7_nextWalk f_X7_requireStarted f_X6_drawnTotal
          rw [h1, if_neg (by decide), nw_xeO, a4.2.1, if_pos (show nI drawn < (50 : Int32) from nI_lt (b := 50) c50 (by omega)), g1, nw_bd, if_pos rfl, w6]
          rfl
        have hf1 : nw_f nw_pD2 σ (jv_sl τ 61 0 (nI L).toInt64) := (nw_pD2W g2).sl (by rfl)
        have hM1 := hf1.keepM hM nw_pD2_M
        obtain ⟨ρ, k1, k2, k3, k4⟩ := (nw_rnext h.1.1 hM1 (show fr < 10 by omega) (by rw [nw_h1, (g2 35 23 rfl).1, h2]) (a5.keep (fun j _ => by rw [nw_h1, (g2 35 j rfl).1]) (by rw [nw_h1, (g2.lng (k := 48) (fun _ => rfl)).1]) (by rw [nw_h1, (g2.lng (k := 49) (fun _ => rfl)).1]) (by rw [nw_h1, (g2.lng (k := 50) (fun _ => rfl)).1])) c50).1 p L w1 w2 w5
        rw [hcl, nw_bd, k1, nw_bd]
        refine ⟨_, nw_finO (x := nI L) k2 ?_ rfl, nw_d2 h (hf1.trans (nw_pD2V k3)) (Or.inr ⟨?_, ?_, fr, to, drawn + 1, a1, a2, by omega, g3.keep (fun j _ => ?_) (fun k h1 h2 => ?_), k4⟩)⟩
        · show ρ.2 61 0 = _
          rw [(k3 61 0 rfl).2, nw_hs]
        · show ρ.1 0 8 = 1
          rw [(k3 0 8 rfl).1, nw_h1, (g2 0 8 rfl).1, h1]
        · show ρ.1 35 23 = 1
          rw [(k3 35 23 rfl).1, nw_h1, (g2 35 23 rfl).1, h2]
        · show ρ.1 17 j = _
          rw [(k3 17 j rfl).1, nw_h1]
        · show ρ.1 k = _
          rw [(k3.lng (k := k) (fun j => by
            have : k = 18 ∨ k = 19 ∨ k = 20 ∨ k = 21 ∨ k = 22 ∨ k = 23 := by omega
            rcases this with rfl | rfl | rfl | rfl | rfl | rfl <;> rfl)).1, nw_h1]
      · have hcl : f_L_nextWalk σ = some ((2 : Int32), τ) := by
          unfold f_L_nextWalk f_X7_nextWalk f_X7_requireStarted f_X6_drawnTotal
          rw [h1, if_neg (by decide), nw_xeO, a4.2.1, if_pos (show nI drawn < (50 : Int32) from nI_lt (b := 50) c50 (by omega)), g1, nw_bd, if_neg (show ¬ false = true by decide)]
          rfl
        have hf1 : nw_f nw_pD2 σ τ := nw_pD2W g2
        have hM1 := hf1.keepM hM nw_pD2_M
        obtain ⟨ρ, k1, k2, k3, k4⟩ := (nw_rnext h.1.1 hM1 (show fr < 10 by omega) (by rw [(g2 35 23 rfl).1, h2]) (a5.keep (fun j _ => by rw [(g2 35 j rfl).1]) (by rw [(g2.lng (k := 48) (fun _ => rfl)).1]) (by rw [(g2.lng (k := 49) (fun _ => rfl)).1]) (by rw [(g2.lng (k := 50) (fun _ => rfl)).1])) c50).2 g4
        rw [hcl, nw_bd, k1, nw_bd]
        refine ⟨_, nw_finE (k := 2) (by omega) (by omega) k2, nw_d2 h (hf1.trans (nw_pD2V k3)) (Or.inr ⟨?_, ?_, fr, to, drawn, a1, a2, by omega, g3.keep (fun j _ => ?_) (fun k h1 h2 => ?_), k4⟩)⟩
        · show ρ.1 0 8 = 1
          rw [(k3 0 8 rfl).1, (g2 0 8 rfl).1, h1]
        · show ρ.1 35 23 = 1
          rw [(k3 35 23 rfl).1, (g2 35 23 rfl).1, h2]
        · show ρ.1 17 j = _
          rw [(k3 17 j rfl).1]
        · show ρ.1 k = _
          rw [(k3.lng (k := k) (fun j => by
            have : k = 18 ∨ k = 19 ∨ k = 20 ∨ k = 21 ∨ k = 22 ∨ k = 23 := by omega
            rcases this with rfl | rfl | rfl | rfl | rfl | rfl <;> rfl)).1]
    · have h50 : drawn = 50 := by omega
      refine nw_fin1 h (k := 1) (z := 0) (B := fun s => f_X8_nextWalk s) (Or.inl rfl) ?_ ?_
      · unfold f_L_nextWalk f_X7_nextWalk f_X7_requireStarted f_X6_drawnTotal
        rw [h1, if_neg (by decide), nw_xeO, a4.2.1, if_neg (show ¬ nI drawn < (50 : Int32) from nI_nlt (b := 50) (by omega) (by omega))]
        rfl
      · unfold f_X8_nextWalk
        rw [h2, if_neg (by decide), a5.2.1, if_pos (show nI drawn = (50 : Int32) by rw [h50]; rfl), nw_bd, nw_lt, nw_hk (by decide)]
        rfl
end NWDR
