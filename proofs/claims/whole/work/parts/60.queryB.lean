/-! ===== allowed walks asked for ===== -/
section NWQB
variable {N : nw_N} {c : Nat} {σ : jv_S}
theorem nw_err {ρ τ : jv_S} {p q : Int32} {L : Nat} (hA : f_X8_areNodes ρ p q = true) (h : f_X8_laysAllowed ρ p q = some (nI L, τ)) (hL : L ≤ 1000000000) : f_X8_errorOfAllowed ρ p q = some (if L < 1000000000 then (0 : Int32) else (2 : Int32), τ) := by
  unfold f_X8_errorOfAllowed
  rw [if_pos hA, h, nw_bd]
  by_cases c : L < 1000000000
  · rw [if_neg (nw_neF c), nw_bd, if_pos c]
  · rw [if_pos (show nI L = (1000000000 : Int32) by rw [show L = 1000000000 by omega]; rfl), nw_bd, if_neg c]
theorem nw_errN {ρ : jv_S} {p q : Int32} (hA : f_X8_areNodes ρ p q = false) : f_X8_errorOfAllowed ρ p q = some ((1 : Int32), ρ) := by
  unfold f_X8_errorOfAllowed
  rw [if_neg (by rw [hA]; decide), nw_bd]
theorem nw_q23 (h : nw_all N c σ) (p q : Int32) : ∃ τ, jv_bd (f_L_allowedLength σ p q) (fun q3 => jv_bd (f_X8_allowedLength q3.2 p q) (fun q6 => nw_fin q3.1 q6)) = some τ ∧ nw_I (c + 1) τ := by
  obtain ⟨hnet, -, -⟩ := id h
  have hn := hnet.1.n
  have hM := hnet.2.2.2.1
  rcases nw_nodes2 hnet p q with ⟨i, j, hi, hj, rfl, rfl, e1, e2⟩ | ⟨e1, e2⟩
  · obtain ⟨L, w, hL, hw1, hw2, ⟨τ, g1, g2, g3, g4⟩, href⟩ := nw_allow hnet.1 (show i < 10 by omega) (show j < 10 by omega) hnet.2.1 hnet.2.2.1
    have hfτ := nw_pSCY g2
    by_cases cL : L < 1000000000
    · have hcl : f_L_allowedLength σ (nI i) (nI j) = some ((0 : Int32), jv_sl τ 61 0 (nI L).toInt64) := by
        unfold f_L_allowedLength f_X7_allowedLength
        rw [e1, nw_xeO, g1, nw_bd]
        unfold f_X7_requireWay
        rw [if_pos (nw_ltF cL)]
        rfl
      have hf1 : nw_f nw_pSC σ (jv_sl τ 61 0 (nI L).toInt64) := hfτ.sl (by rfl)
      obtain ⟨ρ, k1, k2, k3, k4⟩ := href _ (hf1.keepM hM nw_pSC_M)
      have hf2 := (hf1.trans (nw_pSCZ k2)).si (k := 35) (j := 0) (x := (0 : Int32)) (by rfl)
      obtain ⟨ρ2, m1, m2, m3, m4⟩ := href _ (hf2.keepM hM nw_pSC_M)
      have hrf : f_X8_allowedLength (jv_sl τ 61 0 (nI L).toInt64) (nI i) (nI j) = some (nI L, ρ2) := by
        unfold f_X8_allowedLength
        rw [nw_err (e2 _ (hf1.keepM hM nw_pSC_M).1) k1 hL, if_pos cL, nw_bd, nw_h0, nw_lt, if_pos rfl, m1]
        rfl
      rw [hcl, nw_bd, hrf, nw_bd]
      refine ⟨_, nw_finO (x := nI L) ?_ ?_ rfl, nw_scr h (by omega) (hf2.trans (nw_pSCZ m2))⟩
      · show ρ2.1 35 0 = _
        rw [(m2 35 0 rfl).1, nw_gs]; rfl
      · show ρ2.2 61 0 = _
        rw [(m2 61 0 rfl).2, nw_g2, (k2 61 0 rfl).2, nw_hs]
    · have hcl : f_L_allowedLength σ (nI i) (nI j) = some ((2 : Int32), τ) := by
        unfold f_L_allowedLength f_X7_allowedLength
        rw [e1, nw_xeO, g1, nw_bd]
        unfold f_X7_requireWay
        rw [if_neg (nw_nltF cL (by omega))]
        rfl
      obtain ⟨ρ, k1, k2, k3, k4⟩ := href _ (hfτ.keepM hM nw_pSC_M)
      have hrf : f_X8_allowedLength τ (nI i) (nI j) = some (0, jv_si ρ 35 0 (2 : Int32)) := by
        unfold f_X8_allowedLength
        rw [nw_err (e2 _ (hfτ.keepM hM nw_pSC_M).1) k1 hL, if_neg cL, nw_bd, nw_hk (show (2 : Int32) ≠ 0 by decide), nw_lt, if_neg (show ¬ false = true by decide)]
        rfl
      rw [hcl, nw_bd, hrf, nw_bd]
      exact ⟨_, nw_finE (k := 2) (by omega) (by omega) nw_gs, nw_scr h (by omega) ((hfτ.trans (nw_pSCZ k2)).si (by rfl))⟩
  · have hcl : f_L_allowedLength σ p q = some ((1 : Int32), σ) := by
      unfold f_L_allowedLength f_X7_allowedLength
      rw [e1]
      rfl
    have hrf : f_X8_allowedLength σ p q = some (0, jv_si σ 35 0 (1 : Int32)) := by
      unfold f_X8_allowedLength
      rw [nw_errN (e2 _ hM.1), nw_bd, nw_hk (show (1 : Int32) ≠ 0 by decide), nw_lt, if_neg (show ¬ false = true by decide)]
      rfl
    rw [hcl, nw_bd, hrf, nw_bd]
    exact ⟨_, nw_finE (k := 1) (by omega) (by omega) nw_gs, nw_scr h (by omega) (nw_f.rfl.si (by rfl))⟩
theorem nw_q24 (h : nw_all N c σ) (p q : Int32) : ∃ τ, jv_bd (f_L_allowedEdges σ p q) (fun q3 => jv_bd (f_X8_allowedEdges q3.2 p q) (fun q6 => nw_fin q3.1 q6)) = some τ ∧ nw_I (c + 1) τ := by
  obtain ⟨hnet, -, -⟩ := id h
  have hn := hnet.1.n
  have hM := hnet.2.2.2.1
  rcases nw_nodes2 hnet p q with ⟨i, j, hi, hj, rfl, rfl, e1, e2⟩ | ⟨e1, e2⟩
  · obtain ⟨L, w, hL, hw1, hw2, ⟨τ, g1, g2, g3, g4⟩, href⟩ := nw_allow hnet.1 (show i < 10 by omega) (show j < 10 by omega) hnet.2.1 hnet.2.2.1
    have hfτ := nw_pSCY g2
    by_cases cL : L < 1000000000
    · have hcl : f_L_allowedEdges σ (nI i) (nI j) = some ((0 : Int32), jv_sl τ 61 0 (nI w.length).toInt64) := by
        unfold f_L_allowedEdges f_X7_allowedEdges
        rw [e1, nw_xeO, g1, nw_bd]
        unfold f_X7_requireWay f_X0_foundSize
        rw [if_pos (nw_ltF cL), nw_xeO, nw_bd]
        show some ((0 : Int32), jv_sl τ 61 0 (τ.1 32 3).toInt64) = _
        rw [g3]
      have hf1 : nw_f nw_pSC σ (jv_sl τ 61 0 (nI w.length).toInt64) := hfτ.sl (by rfl)
      obtain ⟨ρ, k1, k2, k3, k4⟩ := href _ (hf1.keepM hM nw_pSC_M)
      have hrf : f_X8_allowedEdges (jv_sl τ 61 0 (nI w.length).toInt64) (nI i) (nI j) = some (nI w.length, jv_si ρ 35 0 (0 : Int32)) := by
        unfold f_X8_allowedEdges
        rw [nw_err (e2 _ (hf1.keepM hM nw_pSC_M).1) k1 hL, if_pos cL, nw_bd, nw_h0, nw_lt, if_pos rfl, nw_lt]
        show some ((jv_si ρ 35 0 (0 : Int32)).1 35 43, _) = _
        rw [nw_gj (by decide), k3]
      rw [hcl, nw_bd, hrf, nw_bd]
      refine ⟨_, nw_finO (x := nI w.length) nw_gs ?_ rfl, nw_scr h (by omega) ((hf1.trans (nw_pSCZ k2)).si (by rfl))⟩
      rw [nw_g2, (k2 61 0 rfl).2, nw_hs]
    · have hcl : f_L_allowedEdges σ (nI i) (nI j) = some ((2 : Int32), τ) := by
        unfold f_L_allowedEdges f_X7_allowedEdges
        rw [e1, nw_xeO, g1, nw_bd]
        unfold f_X7_requireWay
        rw [if_neg (nw_nltF cL (by omega))]
        rfl
      obtain ⟨ρ, k1, k2, k3, k4⟩ := href _ (hfτ.keepM hM nw_pSC_M)
      have hrf : f_X8_allowedEdges τ (nI i) (nI j) = some (0, jv_si ρ 35 0 (2 : Int32)) := by
        unfold f_X8_allowedEdges
        rw [nw_err (e2 _ (hfτ.keepM hM nw_pSC_M).1) k1 hL, if_neg cL, nw_bd, nw_hk (show (2 : Int32) ≠ 0 by decide), nw_lt, if_neg (show ¬ false = true by decide)]
        rfl
      rw [hcl, nw_bd, hrf, nw_bd]
      exact ⟨_, nw_finE (k := 2) (by omega) (by omega) nw_gs, nw_scr h (by omega) ((hfτ.trans (nw_pSCZ k2)).si (by rfl))⟩
  · have hcl : f_L_allowedEdges σ p q = some ((1 : Int32), σ) := by
      unfold f_L_allowedEdges f_X7_allowedEdges
      rw [e1]
      rfl
    have hrf : f_X8_allowedEdges σ p q = some (0, jv_si σ 35 0 (1 : Int32)) := by
      unfold f_X8_allowedEdges
      rw [nw_errN (e2 _ hM.1), nw_bd, nw_hk (show (1 : Int32) ≠ 0 by decide), nw_lt, if_neg (show ¬ false = true by decide)]
      rfl
    rw [hcl, nw_bd, hrf, nw_bd]
    exact ⟨_, nw_finE (k := 1) (by omega) (by omega) nw_gs, nw_scr h (by omega) (nw_f.rfl.si (by rfl))⟩
theorem nw_q25 (h : nw_all N c σ) (p q r : Int32) : ∃ τ, jv_bd (f_L_allowedEdge σ p q r) (fun q4 => jv_bd (f_X8_allowedEdge q4.2 p q r) (fun q8 => nw_fin q4.1 q8)) = some τ ∧ nw_I (c + 1) τ := by
  obtain ⟨hnet, -, -⟩ := id h
  have hn := hnet.1.n
  have hM := hnet.2.2.2.1
  rcases nw_nodes2 hnet p q with ⟨i, j, hi, hj, rfl, rfl, e1, e2⟩ | ⟨e1, e2⟩
  · obtain ⟨L, w, hL, hw1, hw2, ⟨τ, g1, g2, g3, g4⟩, href⟩ := nw_allow hnet.1 (show i < 10 by omega) (show j < 10 by omega) hnet.2.1 hnet.2.2.1
    have hfτ := nw_pSCY g2
    have htwo : f_L_allowedEdge σ (nI i) (nI j) r = some ((2 : Int32), τ) → (∀ ρ, f_X8_laysAllowed τ (nI i) (nI j) = some (nI L, ρ) → ρ.1 35 43 = nI w.length → ∃ ρ2, f_X8_allowedEdge τ (nI i) (nI j) r = some (0, ρ2) ∧ ρ2.1 35 0 = nI 2 ∧ nw_f nw_pSC ρ ρ2) → ∃ τ, jv_bd (f_L_allowedEdge σ (nI i) (nI j) r) (fun q4 => jv_bd (f_X8_allowedEdge q4.2 (nI i) (nI j) r) (fun q8 => nw_fin q4.1 q8)) = some τ ∧ nw_I (c + 1) τ := fun h1 h2 => by
      obtain ⟨ρ, k1, k2, k3, k4⟩ := href _ (hfτ.keepM hM nw_pSC_M)
      obtain ⟨ρ2, m1, m2, m3⟩ := h2 ρ k1 k3
      rw [h1, nw_bd, m1, nw_bd]
      exact ⟨_, nw_finE (k := 2) (by omega) (by omega) m2, nw_scr h (by omega) ((hfτ.trans (nw_pSCZ k2)).trans m3)⟩
    by_cases cL : L < 1000000000
    · have hfe : f_X0_foundEdge τ r = (if r < 0 then (-1 : Int32) else if nI w.length ≤ r then (-1 : Int32) else jv_rd (τ.1 34) 24 0 r) := by
        unfold f_X0_foundEdge; rw [g3]; rfl
      have hcl0 : ∀ z, f_X0_foundEdge τ r = z → f_L_allowedEdge σ (nI i) (nI j) r = if z = (-1 : Int32) then some ((2 : Int32), τ) else some ((0 : Int32), jv_sl τ 61 0 z.toInt64) := fun z hz => by
        unfold f_L_allowedEdge f_X7_allowedEdge
        rw [e1, nw_xeO, g1, nw_bd]
        unfold f_X7_requireWay f_X7_requireListed
        rw [if_pos (nw_ltF cL), nw_xeO, hz]
        by_cases cz : z = (-1 : Int32)
        · rw [if_pos cz, if_pos cz]; rfl
        · rw [if_neg cz, if_neg cz]; rfl
      rcases nw_in0 (ρ := σ) (p := r) (n := w.length) (by omega) with ⟨a, ha, rfl, -⟩ | ⟨hout, -⟩
      · have hx : w[a]? = some w[a] := List.getElem?_eq_getElem ha
        have hxb := hw2 _ (List.mem_of_getElem? hx)
        have hz : f_X0_foundEdge τ (nI a) = nI w[a] := by
          rw [hfe, if_neg (nI_pos (by omega)), if_neg (nI_ge ha (by omega)), nw_rd (by omega) (by omega), g4 a _ hx]
        have hcl := hcl0 _ hz
        rw [if_neg (nw_nm1 (by omega))] at hcl
        have hf1 : nw_f nw_pSC σ (jv_sl τ 61 0 (nI w[a]).toInt64) := hfτ.sl (by rfl)
        obtain ⟨ρ, k1, k2, k3, k4⟩ := href _ (hf1.keepM hM nw_pSC_M)
        have hrf : f_X8_allowedEdge (jv_sl τ 61 0 (nI w[a]).toInt64) (nI i) (nI j) (nI a) = some (nI w[a], jv_si (jv_si ρ 35 0 (0 : Int32)) 35 0 (0 : Int32)) := by
          unfold f_X8_allowedEdge
          rw [nw_err (e2 _ (hf1.keepM hM nw_pSC_M).1) k1 hL, if_pos cL, nw_bd, nw_h0, nw_lt, if_pos rfl]
          have hin : f_X8_in (jv_si ρ 35 0 (0 : Int32)) (nI a) (0 : Int32) (((jv_si ρ 35 0 (0 : Int32)).1 35 43) - (1 : Int32)) = true := by
            rw [nw_gj (by decide), k3]
            rcases nw_in0 (ρ := jv_si ρ 35 0 (0 : Int32)) (p := nI a) (n := w.length) (by omega) with ⟨_, _, _, hh⟩ | ⟨hh, _⟩
            · exact hh
            · exact absurd hh (nw_out2 ha (by omega))
          rw [if_pos hin, nw_lt, nw_h0, nw_lt, if_pos rfl, nw_ck (by omega) (by omega), if_pos rfl, nw_bd, nI_clamp (by omega)]
          show some ((jv_si (jv_si ρ 35 0 (0 : Int32)) 35 0 (0 : Int32)).1 60 a, _) = _
          rw [nw_gn (by decide), nw_gn (by decide), k4 a _ hx]
        rw [hcl, nw_bd, hrf, nw_bd]
        refine ⟨_, nw_finO (x := nI w[a]) nw_gs ?_ rfl, nw_scr h (by omega) (((hf1.trans (nw_pSCZ k2)).si (by rfl)).si (by rfl))⟩
        rw [nw_g2, nw_g2, (k2 61 0 rfl).2, nw_hs]
      · have hz : f_X0_foundEdge τ r = (-1 : Int32) := by
          rw [hfe]
          by_cases c1 : r < 0
          · rw [if_pos c1]
          · rw [if_neg c1, if_pos (by rcases hout with h | h; exact absurd h c1; exact h)]
        have hcl := hcl0 _ hz
        rw [if_pos rfl] at hcl
        refine htwo hcl (fun ρ k1 k3 => ⟨jv_si (jv_si ρ 35 0 (0 : Int32)) 35 0 (2 : Int32), ?_, by rw [nw_gs]; rfl, (nw_f.rfl.si (by rfl)).si (by rfl)⟩)
        unfold f_X8_allowedEdge
        rw [nw_err (e2 _ (hfτ.keepM hM nw_pSC_M).1) k1 hL, if_pos cL, nw_bd, nw_h0, nw_lt, if_pos rfl]
        have hin : f_X8_in (jv_si ρ 35 0 (0 : Int32)) r (0 : Int32) (((jv_si ρ 35 0 (0 : Int32)).1 35 43) - (1 : Int32)) = false := by
          rw [nw_gj (by decide), k3]
          rcases nw_in0 (ρ := jv_si ρ 35 0 (0 : Int32)) (p := r) (n := w.length) (by omega) with ⟨a, ha, hra, _⟩ | ⟨_, hh⟩
          · rw [hra] at hout; exact absurd hout (nw_out2 ha (by omega))
          · exact hh
        rw [if_neg (by rw [hin]; decide), nw_lt, nw_hk (show (2 : Int32) ≠ 0 by decide), nw_lt, if_neg (show ¬ false = true by decide), nw_bd]
    · have hcl : f_L_allowedEdge σ (nI i) (nI j) r = some ((2 : Int32), τ) := by
        unfold f_L_allowedEdge f_X7_allowedEdge
        rw [e1, nw_xeO, g1, nw_bd]
        unfold f_X7_requireWay
        rw [if_neg (nw_nltF cL (by omega))]
        rfl
      refine htwo hcl (fun ρ k1 k3 => ⟨jv_si ρ 35 0 (2 : Int32), ?_, by rw [nw_gs]; rfl, nw_f.rfl.si (by rfl)⟩)
      unfold f_X8_allowedEdge
      rw [nw_err (e2 _ (hfτ.keepM hM nw_pSC_M).1) k1 hL, if_neg cL, nw_bd, nw_hk (show (2 : Int32) ≠ 0 by decide), nw_lt, if_neg (show ¬ false = true by decide)]
  · have hcl : f_L_allowedEdge σ p q r = some ((1 : Int32), σ) := by
      unfold f_L_allowedEdge f_X7_allowedEdge
      rw [e1]
      rfl
    have hrf : f_X8_allowedEdge σ p q r = some (0, jv_si σ 35 0 (1 : Int32)) := by
      unfold f_X8_allowedEdge
      rw [nw_errN (e2 _ hM.1), nw_bd, nw_hk (show (1 : Int32) ≠ 0 by decide), nw_lt, if_neg (show ¬ false = true by decide)]
    rw [hcl, nw_bd, hrf, nw_bd]
    exact ⟨_, nw_finE (k := 1) (by omega) (by omega) nw_gs, nw_scr h (by omega) (nw_f.rfl.si (by rfl))⟩
/-! ===== what was drawn, asked for ===== -/
theorem nw_fin1 (h : nw_all N c σ) {A : Option (Int32 × jv_S)} {B : jv_S → Option (Int32 × jv_S)} {k : Nat} {z : Int32} (hk : k = 1 ∨ k = 2) (h1 : A = some (nI k, σ)) (h2 : B σ = some (z, jv_si σ 35 0 (nI k))) : ∃ τ, jv_bd A (fun q1 => jv_bd (B q1.2) (fun q2 => nw_fin q1.1 q2)) = some τ ∧ nw_I (c + 1) τ := by
  rw [h1, nw_bd, h2, nw_bd]
  exact ⟨_, nw_finE (k := k) (by omega) (by omega) nw_gs, nw_scr h (by omega) (nw_f.rfl.si (by rfl))⟩
theorem nw_fin2 (h : nw_all N c σ) {A : Option (Int32 × jv_S)} {B : jv_S → Option (Int32 × jv_S)} {x : Int32} (h1 : A = some ((0 : Int32), jv_sl σ 61 0 x.toInt64)) (h2 : B (jv_sl σ 61 0 x.toInt64) = some (x, jv_si (jv_sl σ 61 0 x.toInt64) 35 0 (0 : Int32))) : ∃ τ, jv_bd A (fun q1 => jv_bd (B q1.2) (fun q2 => nw_fin q1.1 q2)) = some τ ∧ nw_I (c + 1) τ := by
  rw [h1, nw_bd, h2, nw_bd]
  refine ⟨_, nw_finO (x := x) nw_gs ?_ rfl, nw_scr h (by omega) ((nw_f.rfl.sl (by rfl)).si (by rfl))⟩
  rw [nw_g2, nw_hs]
theorem nw_q12 (h : nw_all N c σ) (hc : c ≤ 600) : ∃ τ, jv_bd (f_L_pathsDrawn σ) (fun q1 => jv_bd (some (f_X8_pathsDrawn q1.2)) (fun q2 => nw_fin q1.1 q2)) = some τ ∧ nw_I (c + 1) τ := by
  rcases h.2.1 with ⟨h1, h2⟩ | ⟨h1, h2, fr, to, cur, drawn, path, a1, a2, a3, a4, a5, a6, a7, a8, a9⟩
  · refine nw_fin1 h (k := 1) (z := 0) (B := fun s => some (f_X8_pathsDrawn s)) (Or.inl rfl) ?_ ?_
    · unfold f_L_pathsDrawn f_X7_pathsDrawn f_X7_requireStarted; rw [h1]; rfl
    · unfold f_X8_pathsDrawn; rw [h2]; rfl
  · obtain ⟨pg, nx, b1, b2, b3, -⟩ := a6
    refine nw_fin2 h (x := nI drawn) (B := fun s => some (f_X8_pathsDrawn s)) ?_ ?_
    · unfold f_L_pathsDrawn f_X7_pathsDrawn f_X7_requireStarted f_X5_drawnTotal; rw [h1, b3]; rfl
    · unfold f_X8_pathsDrawn
      rw [nw_h1, h2, if_neg (by decide), nw_lt, show jv_b false = (0 : Int32) from rfl, nw_h0, nw_lt, if_pos rfl, nw_lt]
      show some (((jv_si (jv_sl σ 61 0 (nI drawn).toInt64) 35 0 (0 : Int32)).1 35 12, _)) = _
      rw [nw_gj (by decide), nw_h1, a9.1]
theorem nw_q13 (h : nw_all N c σ) (hc : c ≤ 600) : ∃ τ, jv_bd (f_L_pathEdges σ) (fun q1 => jv_bd (some (f_X8_pathEdges q1.2)) (fun q2 => nw_fin q1.1 q2)) = some τ ∧ nw_I (c + 1) τ := by
  rcases h.2.1 with ⟨h1, h2⟩ | ⟨h1, h2, fr, to, cur, drawn, path, a1, a2, a3, a4, a5, a6, a7, a8, a9⟩
  · refine nw_fin1 h (k := 1) (z := 0) (B := fun s => some (f_X8_pathEdges s)) (Or.inl rfl) ?_ ?_
    · unfold f_L_pathEdges f_X7_pathEdges f_X7_requireStarted; rw [h1]; rfl
    · unfold f_X8_pathEdges; rw [h2]; rfl
  · obtain ⟨pg, nx, b1, b2, b3, b4, -⟩ := a6
    by_cases c0 : drawn = 0
    · refine nw_fin1 h (k := 2) (z := 0) (B := fun s => some (f_X8_pathEdges s)) (Or.inr rfl) ?_ ?_
      · unfold f_L_pathEdges f_X7_pathEdges f_X7_requireStarted f_X5_drawnTotal f_X7_requireDrawn; rw [h1, b3, c0]; rfl
      · unfold f_X8_pathEdges; rw [h2, a9.1, c0]; rfl
    · obtain ⟨d1, d2, d3, d4⟩ := a9.2.2.2.1 (by omega)
      have hgm := nw_gm_ap h.1.1 (fr := fr) (to := to)
      obtain ⟨p1, p2, p3⟩ := hgm.1.2 path d3
      rw [d4] at b4
      refine nw_fin2 h (x := nI path.length) (B := fun s => some (f_X8_pathEdges s)) ?_ ?_
      · unfold f_L_pathEdges f_X7_pathEdges f_X7_requireStarted f_X5_drawnTotal f_X7_requireDrawn
        rw [h1, b3, if_neg (by decide), nw_xeO, if_neg (nI_ne0 (by omega) (by omega)), nw_xeO, nw_size h.1.1 p1 (hgm.2 path d3) b4]
        rfl
      · unfold f_X8_pathEdges
        rw [nw_h1, h2, if_neg (by decide), a9.1, if_neg (nI_ne0 (by omega) (by omega)), nw_lt, nw_h0, nw_lt, if_pos rfl, nw_lt]
        show some (((jv_si (jv_sl σ 61 0 (nI path.length).toInt64) 35 0 (0 : Int32)).1 35 13, _)) = _
        rw [nw_gj (by decide), nw_h1, a9.2.2.1]
theorem nw_q14 (h : nw_all N c σ) (hc : c ≤ 600) (r : Int32) : ∃ τ, jv_bd (f_L_pathEdge σ r) (fun q2 => jv_bd (f_X8_pathEdge q2.2 r) (fun q4 => nw_fin q2.1 q4)) = some τ ∧ nw_I (c + 1) τ := by
  have hn := h.1.1.n
  rcases h.2.1 with ⟨h1, h2⟩ | ⟨h1, h2, fr, to, cur, drawn, path, a1, a2, a3, a4, a5, a6, a7, a8, a9⟩
  · refine nw_fin1 h (k := 1) (z := 0) (B := fun s => f_X8_pathEdge s r) (Or.inl rfl) ?_ ?_
    · unfold f_L_pathEdge f_X7_pathEdge f_X7_requireStarted; rw [h1]; rfl
    · unfold f_X8_pathEdge; rw [h2]; rfl
  · obtain ⟨pg, nx, b1, b2, b3, b4, -⟩ := a6
    have hout : (r < 0 ∨ nI path.length ≤ r) → f_X8_pathEdge σ r = some (0, jv_si σ 35 0 (nI 2)) := fun ho => by
      have hlen : path.length ≤ 9 := by
        by_cases c0 : drawn = 0
        · rw [(a9.2.2.2.2 c0).1]; simp
        · exact ((nw_gm_ap h.1.1 (fr := fr) (to := to)).1.2 path (a9.2.2.2.1 (by omega)).2.2.1).1
      unfold f_X8_pathEdge
      rw [h2, if_neg (by decide), a9.2.2.1]
      rcases nw_in0 (ρ := σ) (p := r) (n := path.length) (by omega) with ⟨a, ha, hra, _⟩ | ⟨_, hh⟩
      · rw [hra] at ho; exact absurd ho (nw_out2 ha (by omega))
      · rw [if_neg (by rw [hh]; decide), nw_lt, nw_hk (show (2 : Int32) ≠ 0 by decide), nw_lt, if_neg (show ¬ false = true by decide), nw_bd]
        rfl
    by_cases c0 : drawn = 0
    · refine nw_fin1 h (k := 2) (z := 0) (B := fun s => f_X8_pathEdge s r) (Or.inr rfl) ?_ (hout ?_)
      · unfold f_L_pathEdge f_X7_pathEdge f_X7_requireStarted f_X5_drawnTotal f_X7_requireDrawn; rw [h1, b3, c0]; rfl
      · rw [(a9.2.2.2.2 c0).1]
        by_cases c1 : r < 0
        · exact Or.inl c1
        · right
          show nI 0 ≤ r
          rw [fa_lt] at c1
          rw [fa_le]
          have e1 : (nI 0).toInt = 0 := by decide
          have e2 : (0 : Int32).toInt = 0 := by decide
          omega
    · obtain ⟨d1, d2, d3, d4⟩ := a9.2.2.2.1 (by omega)
      have hgm := nw_gm_ap h.1.1 (fr := fr) (to := to)
      obtain ⟨p1, p2, p3⟩ := hgm.1.2 path d3
      rw [d4] at b4
      have hcl0 : ∀ z, f_X5_currentEdge σ r = z → f_L_pathEdge σ r = if z = (-1 : Int32) then some ((2 : Int32), σ) else some ((0 : Int32), jv_sl σ 61 0 z.toInt64) := fun z hz => by
        unfold f_L_pathEdge f_X7_pathEdge f_X7_requireStarted f_X5_drawnTotal f_X7_requireDrawn f_X7_requireListed
        rw [h1, b3, if_neg (by decide), nw_xeO, if_neg (nI_ne0 (by omega) (by omega)), nw_xeO, hz]
        by_cases cz : z = (-1 : Int32)
        · rw [if_pos cz, if_pos cz]; rfl
        · rw [if_neg cz, if_neg cz]; rfl
      rcases nw_in0 (ρ := σ) (p := r) (n := path.length) (by omega) with ⟨a, ha, rfl, -⟩ | ⟨ho, -⟩
      · have hx : path[a]? = some path[a] := List.getElem?_eq_getElem ha
        have hxb := hgm.2 path d3 _ (List.mem_of_getElem? hx)
        have hcl := hcl0 _ (nw_curI h.1.1 p1 (hgm.2 path d3) b4 hx)
        rw [if_neg (nw_nm1 (by omega))] at hcl
        refine nw_fin2 h (x := nI path[a]) (B := fun s => f_X8_pathEdge s (nI a)) hcl ?_
        unfold f_X8_pathEdge
        rw [nw_h1, h2, if_neg (by decide), a9.2.2.1]
        rcases nw_in0 (ρ := jv_sl σ 61 0 (nI path[a]).toInt64) (p := nI a) (n := path.length) (by omega) with ⟨_, _, _, hh⟩ | ⟨hh, _⟩
        · rw [if_pos hh, nw_lt, nw_h0, nw_lt, if_pos rfl, nw_ck (by omega) (by omega), if_pos rfl, nw_bd, nI_clamp (by omega)]
          show some ((jv_si (jv_sl σ 61 0 (nI path[a]).toInt64) 35 0 (0 : Int32)).1 42 a, _) = _
          rw [nw_gn (by decide), nw_h1, d2 a _ hx]
        · exact absurd hh (nw_out2 ha (by omega))
      · have hz : f_X5_currentEdge σ r = (-1 : Int32) := by
          by_cases c1 : r < 0
          · unfold f_X5_currentEdge; rw [if_pos c1]
          · rcases pk_ix r (n := 9) (by omega) with h9 | h9 | ⟨a, h9, rfl⟩
            · exact absurd h9 c1
            · unfold f_X5_currentEdge
              rw [if_neg c1, if_neg]
              intro h10
              have : (nI 9) ≤ r := h9
              rw [fa_le] at this
              rw [fa_lt] at h10
              have e2 : (9 : Int32).toInt = (nI 9).toInt := by decide
              omega
            · refine nw_curO h.1.1 p1 (hgm.2 path d3) b4 h9 ?_
              rcases ho with ho | ho
              · exact absurd ho c1
              · exact (nI_leI (by omega) (by omega)).mp ho
        have hcl := hcl0 _ hz
        rw [if_pos rfl] at hcl
        exact nw_fin1 h (k := 2) (z := 0) (B := fun s => f_X8_pathEdge s r) (Or.inr rfl) hcl (hout ho)
theorem nw_q18 (h : nw_all N c σ) : ∃ τ, jv_bd (f_L_walksDrawn σ) (fun q1 => jv_bd (some (f_X8_walksDrawn q1.2)) (fun q2 => nw_fin q1.1 q2)) = some τ ∧ nw_I (c + 1) τ := by
  rcases h.2.2 with ⟨h1, h2⟩ | ⟨h1, h2, fr, to, drawn, a1, a2, a3, a4, a5⟩
  · refine nw_fin1 h (k := 1) (z := 0) (B := fun s => some (f_X8_walksDrawn s)) (Or.inl rfl) ?_ ?_
    · unfold f_L_walksDrawn f_X7_walksDrawn f_X7_requireStarted; rw [h1]; rfl
    · unfold f_X8_walksDrawn; rw [h2]; rfl
  · refine nw_fin2 h (x := nI drawn) (B := fun s => some (f_X8_walksDrawn s)) ?_ ?_
    · unfold f_L_walksDrawn f_X7_walksDrawn f_X7_requireStarted f_X6_drawnTotal; rw [h1, a4.2.1]; rfl
    · unfold f_X8_walksDrawn
      rw [nw_h1, h2, if_neg (by decide), nw_lt, show jv_b false = (0 : Int32) from rfl, nw_h0, nw_lt, if_pos rfl, nw_lt]
      show some (((jv_si (jv_sl σ 61 0 (nI drawn).toInt64) 35 0 (0 : Int32)).1 35 26, _)) = _
      rw [nw_gj (by decide), nw_h1, a5.2.1]
theorem nw_q19 (h : nw_all N c σ) : ∃ τ, jv_bd (f_L_walkEdges σ) (fun q1 => jv_bd (some (f_X8_walkEdges q1.2)) (fun q2 => nw_fin q1.1 q2)) = some τ ∧ nw_I (c + 1) τ := by
  have hn := h.1.1.n
  rcases h.2.2 with ⟨h1, h2⟩ | ⟨h1, h2, fr, to, drawn, a1, a2, a3, a4, a5⟩
  · refine nw_fin1 h (k := 1) (z := 0) (B := fun s => some (f_X8_walkEdges s)) (Or.inl rfl) ?_ ?_
    · unfold f_L_walkEdges f_X7_walkEdges f_X7_requireStarted; rw [h1]; rfl
    · unfold f_X8_walkEdges; rw [h2]; rfl
  · cases drawn with
    | zero =>
      refine nw_fin1 h (k := 2) (z := 0) (B := fun s => some (f_X8_walkEdges s)) (Or.inr rfl) ?_ ?_
      · unfold f_L_walkEdges f_X7_walkEdges f_X7_requireStarted f_X6_drawnTotal f_X7_requireDrawn; rw [h1, a4.2.1]; rfl
      · unfold f_X8_walkEdges; rw [h2, a5.2.1]; rfl
    | succ d =>
      obtain ⟨p, L, w1, w2, w3, w4, w5, w6, w7, w8⟩ := nw_wcur h.1.1 (show fr < 10 by omega) a4
      obtain ⟨p', v1, v2, v3, v4⟩ := a5.2.2.2.2 d rfl
      have hpp := nw_ww_uniq p p' _ _ w1 v1
      subst hpp
      refine nw_fin2 h (x := nI p.length) (B := fun s => some (f_X8_walkEdges s)) ?_ ?_
      · unfold f_L_walkEdges f_X7_walkEdges f_X7_requireStarted f_X6_drawnTotal f_X7_requireDrawn
        rw [h1, a4.2.1, if_neg (by decide), nw_xeO, if_neg (nI_ne0 (by omega) (by omega)), nw_xeO, w7]
        rfl
      · unfold f_X8_walkEdges
        rw [nw_h1, h2, if_neg (by decide), a5.2.1, if_neg (nI_ne0 (by omega) (by omega)), nw_lt, nw_h0, nw_lt, if_pos rfl, nw_lt]
        show some (((jv_si (jv_sl σ 61 0 (nI p.length).toInt64) 35 0 (0 : Int32)).1 35 27, _)) = _
        rw [nw_gj (by decide), nw_h1, v3]
theorem nw_q20 (h : nw_all N c σ) (r : Int32) : ∃ τ, jv_bd (f_L_walkEdge σ r) (fun q2 => jv_bd (f_X8_walkEdge q2.2 r) (fun q4 => nw_fin q2.1 q4)) = some τ ∧ nw_I (c + 1) τ := by
  have hn := h.1.1.n
  rcases h.2.2 with ⟨h1, h2⟩ | ⟨h1, h2, fr, to, drawn, a1, a2, a3, a4, a5⟩
  · refine nw_fin1 h (k := 1) (z := 0) (B := fun s => f_X8_walkEdge s r) (Or.inl rfl) ?_ ?_
    · unfold f_L_walkEdge f_X7_walkEdge f_X7_requireStarted; rw [h1]; rfl
    · unfold f_X8_walkEdge; rw [h2]; rfl
  · have hout : ∀ len, len < 1000 → σ.1 35 27 = nI len → (r < 0 ∨ nI len ≤ r) → f_X8_walkEdge σ r = some (0, jv_si σ 35 0 (nI 2)) := fun len hlen h27 ho => by
      unfold f_X8_walkEdge
      rw [h2, if_neg (by decide), h27]
      rcases nw_in0 (ρ := σ) (p := r) (n := len) (by omega) with ⟨a, ha, hra, _⟩ | ⟨_, hh⟩
      · rw [hra] at ho; exact absurd ho (nw_out2 ha (by omega))
      · rw [if_neg (by rw [hh]; decide), nw_lt, nw_hk (show (2 : Int32) ≠ 0 by decide), nw_lt, if_neg (show ¬ false = true by decide), nw_bd]
        rfl
    cases drawn with
    | zero =>
      refine nw_fin1 h (k := 2) (z := 0) (B := fun s => f_X8_walkEdge s r) (Or.inr rfl) ?_ (hout 0 (by omega) (a5.2.2.2.1 rfl) ?_)
      · unfold f_L_walkEdge f_X7_walkEdge f_X7_requireStarted f_X6_drawnTotal f_X7_requireDrawn; rw [h1, a4.2.1]; rfl
      · by_cases c1 : r < 0
        · exact Or.inl c1
        · right
          rw [fa_lt] at c1
          rw [fa_le]
          have e1 : (nI 0).toInt = 0 := by decide
          have e2 : (0 : Int32).toInt = 0 := by decide
          omega
    | succ d =>
      obtain ⟨p, L, w1, w2, w3, w4, w5, w6, w7, w8, w9, w10⟩ := nw_wcur h.1.1 (show fr < 10 by omega) a4
      obtain ⟨p', v1, v2, v3, v4⟩ := a5.2.2.2.2 d rfl
      have hpp := nw_ww_uniq p p' _ _ w1 v1
      subst hpp
      have hcl0 : ∀ z, f_X6_currentEdge σ r = some z → f_L_walkEdge σ r = if z = (-1 : Int32) then some ((2 : Int32), σ) else some ((0 : Int32), jv_sl σ 61 0 z.toInt64) := fun z hz => by
        unfold f_L_walkEdge f_X7_walkEdge f_X7_requireStarted f_X6_drawnTotal f_X7_requireDrawn f_X7_requireListed
        rw [h1, a4.2.1, if_neg (by decide), nw_xeO, if_neg (nI_ne0 (by omega) (by omega)), nw_xeO, hz, nw_bd]
        by_cases cz : z = (-1 : Int32)
        · rw [if_pos cz, if_pos cz]; rfl
        · rw [if_neg cz, if_neg cz]; rfl
      rcases nw_in0 (ρ := σ) (p := r) (n := p.length) (by omega) with ⟨a, ha, rfl, -⟩ | ⟨ho, -⟩
      · have hx : p[a]? = some p[a] := List.getElem?_eq_getElem ha
        have hz := w8 a _ hx
        have hcl := hcl0 _ hz
        have hrx := v4 a _ hx
        have hwm : ∀ (q : List Nat) (v r : Nat), nw_ww N to q v r → ∀ e ∈ q, e < nw_m N := fun q => by
          induction q with
          | nil => intro v r _ e he; simp at he
          | cons e q ihq =>
            intro v r hw e' he'
            obtain ⟨L, r', -, -, m3, -, -, -, -, m8⟩ := hw
            rcases List.mem_cons.mp he' with rfl | he'
            · exact m3
            · exact ihq _ _ m8 e' he'
        have hxb := hwm p _ _ w1 _ (List.mem_of_getElem? hx)
        rw [if_neg (nw_nm1 (by omega))] at hcl
        refine nw_fin2 h (x := nI p[a]) (B := fun s => f_X8_walkEdge s (nI a)) hcl ?_
        unfold f_X8_walkEdge
        rw [nw_h1, h2, if_neg (by decide), v3]
        rcases nw_in0 (ρ := jv_sl σ 61 0 (nI p[a]).toInt64) (p := nI a) (n := p.length) (by omega) with ⟨_, _, _, hh⟩ | ⟨hh, _⟩
        · rw [if_pos hh, nw_lt, nw_h0, nw_lt, if_pos rfl, nw_ck (by omega) (by omega), if_pos rfl, nw_bd, nI_clamp (by omega)]
          show some ((jv_si (jv_sl σ 61 0 (nI p[a]).toInt64) 35 0 (0 : Int32)).1 48 a, _) = _
          rw [nw_gn (by decide), nw_h1, hrx]
        · exact absurd hh (nw_out2 ha (by omega))
      · have hz : f_X6_currentEdge σ r = some (-1 : Int32) := by
          by_cases c1 : r < 0
          · exact w9 r c1
          · refine w10 r c1 (fun h3 => ?_)
            rcases ho with ho | ho
            · exact c1 ho
            · rw [fa_lt] at h3; rw [fa_le] at ho; omega
        have hcl := hcl0 _ hz
        rw [if_pos rfl] at hcl
        exact nw_fin1 h (k := 2) (z := 0) (B := fun s => f_X8_walkEdge s r) (Or.inr rfl) hcl (hout p.length (by omega) v3 ho)
end NWQB
