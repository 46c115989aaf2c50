/-! ===== draws ===== -/
def nx_pW2 (k j : Nat) : Bool := nw_pW k j || (k == 0 && j == 8)
def nx_pA2 (k j : Nat) : Bool := nw_pA k j || (k == 0 && j == 7) || k == 10
theorem nx_pA_C (k j : Nat) (h : nw_pC k j = true) : nx_pA2 k j = false := by
  simp only [nw_pC, nx_pA2, nw_pA, Bool.or_eq_true, Bool.and_eq_true, beq_iff_eq, Bool.or_eq_false_iff, Bool.and_eq_false_iff, beq_eq_false_iff_ne] at h ⊢
  omega
theorem nx_pA_W (k j : Nat) (h : nx_dW k j = true) : nx_pA2 k j = false := by
  simp only [nx_dW, nx_pA2, nw_pA, Bool.or_eq_true, Bool.and_eq_true, beq_iff_eq, Bool.or_eq_false_iff, Bool.and_eq_false_iff, beq_eq_false_iff_ne] at h ⊢
  omega
theorem nx_pW_C (k j : Nat) (h : nw_pC k j = true) : nx_pW2 k j = false := by
  simp only [nw_pC, nx_pW2, nw_pW, Bool.or_eq_true, Bool.and_eq_true, beq_iff_eq, Bool.or_eq_false_iff, Bool.and_eq_false_iff, beq_eq_false_iff_ne] at h ⊢
  omega
theorem nx_pW_P (k j : Nat) (h : nx_dP k j = true) : nx_pW2 k j = false := by
  simp only [nx_dP, nx_pW2, nw_pW, Bool.or_eq_true, Bool.and_eq_true, beq_iff_eq, Bool.or_eq_false_iff, Bool.and_eq_false_iff, beq_eq_false_iff_ne] at h ⊢
  omega
theorem nx_pAi {σ τ : jv_S} (h : nw_f nw_pA σ τ) : nw_f nx_pA2 σ τ := h.mono (fun k j h => by
  simp only [nx_pA2, Bool.or_eq_false_iff] at h; exact h.1.1)
theorem nx_pWi {σ τ : jv_S} (h : nw_f nw_pW σ τ) : nw_f nx_pW2 σ τ := h.mono (fun k j h => by
  simp only [nx_pW2, Bool.or_eq_false_iff] at h; exact h.1)
section NXDR
variable {N : nw_N} {P K : Option (Nat × Nat × Nat)} {σ σ0 : jv_S}
theorem nx_hA {P' : Option (Nat × Nat × Nat)} {τ : jv_S} (h : nx_H (N, P, K) σ) (hf : nw_f nx_pA2 σ τ) (hP : nx_P N P' τ) : nx_H (N, P', K) τ :=
  ⟨h.1.keep hf nx_pA_C (fun _ => rfl) (fun _ => rfl) (fun _ _ => rfl), hP, h.2.2.keep hf nx_pA_W⟩
theorem nx_hW {K' : Option (Nat × Nat × Nat)} {τ : jv_S} (h : nx_H (N, P, K) σ) (hf : nw_f nx_pW2 σ τ) (hK : nx_K N K' τ) : nx_H (N, P, K') τ :=
  ⟨h.1.keep hf nx_pW_C (fun _ => rfl) (fun _ => rfl) (fun _ _ => rfl), h.2.1.keep hf nx_pW_P, hK⟩
def nx_R0 (N : nw_N) (P K : Option (Nat × Nat × Nat)) (a : Int32) (p' : nx_Pic) : Prop := (P = none ∧ a = (-99999 : Int32) ∧ p' = (N, P, K)) ∨ ∃ fr to k, P = some (fr, to, k) ∧ ((∃ q, nx_kth N fr to k q ∧ a = nI (nw_sl N q) ∧ p' = (N, some (fr, to, k + 1), K)) ∨ (k = (nw_ap N fr to).length ∧ a = (-99998 : Int32) ∧ p' = (N, P, K)))
theorem nx_R0_u (hW : nw_W N) {a b : Int32} {p1 p2 : nx_Pic} (h : nx_R0 N P K a p1) (h' : nx_R0 N P K b p2) : a = b ∧ p1 = p2 := by
  rcases h with ⟨h1, h2, h3⟩ | ⟨fr, to, k, h1, h2⟩
  · rcases h' with ⟨g1, g2, g3⟩ | ⟨fr', to', k', g1, g2⟩
    · exact ⟨h2.trans g2.symm, h3.trans g3.symm⟩
    · rw [h1] at g1; cases g1
  · rcases h' with ⟨g1, g2, g3⟩ | ⟨fr', to', k', g1, g2⟩
    · rw [h1] at g1; cases g1
    · rw [h1] at g1
      cases g1
      rcases h2 with ⟨q, h2, h3, h4⟩ | ⟨h2, h3, h4⟩ <;> rcases g2 with ⟨q', g2, g3, g4⟩ | ⟨g2, g3, g4⟩
      · rw [nx_kth_u hW h2 g2] at h3
        exact ⟨h3.trans g3.symm, h4.trans g4.symm⟩
      · have := nx_kth_lt h2; omega
      · have := nx_kth_lt g2; omega
      · exact ⟨h3.trans g3.symm, h4.trans g4.symm⟩
theorem nx_d0 (z : Int32) (h : nx_H (N, P, K) σ) : ∃ a p' τ, nx_R0 N P K a p' ∧ f_L_draws σ (0 : Int32) z = some (a, τ) ∧ nx_H p' τ := by
  have hn := h.1.1.n
  match P, h with
  | none, h =>
    have h7 : σ.1 0 7 = 0 := h.2.1
    refine ⟨_, _, σ, Or.inl ⟨rfl, rfl, rfl⟩, ?_, h⟩
    unfold f_L_draws f_X7_nextPath f_X7_requireStarted
    rw [h7]; rfl
  | some (fr, to, k), h =>
    obtain ⟨h1, a1, a2, a3, a4, cur, a5, a6, a7⟩ := h.2.1
    have hgm := nw_gm_ap h.1.1 (fr := fr) (to := to)
    rcases nw_adv h.1.1 h.1.2.1 h.1.2.2.1 (show fr < 10 by have := hn.2.1; have a1 : fr < nw_n N := a1; show fr < 10; omega) (show to < 10 by have := hn.2.1; have a2 : to < nw_n N := a2; omega) a3 a5 a6 with ⟨τ, q, g1, g2, g3, g4, g5, g6⟩ | ⟨τ, g1, g2, g3, g4⟩
    · obtain ⟨p1, p2, p3⟩ := hgm.1.2 q g3
      have hpm := hgm.2 q g3
      have hk : nx_kth N fr to k q := ⟨g3, by rw [nx_rank_s h.1.1 g3 g4 g5, nx_cur_r h.1.1 a7]⟩
      obtain ⟨pg, nx, b1, b2, b3, b4, b5⟩ := id g6
      refine ⟨_, _, τ, Or.inr ⟨fr, to, k, rfl, Or.inl ⟨q, hk, rfl, rfl⟩⟩, ?_, nx_hA h (nx_pAi g2) ⟨?_, a1, a2, a3, ?_, nw_key N q, (nw_key_b h.1.1 p1 hpm).1, g6, Or.inr ⟨q, k, rfl, hk, rfl⟩⟩⟩
      · unfold f_L_draws f_X7_nextPath f_X7_requireStarted
        rw [if_pos rfl, h1, if_neg (by decide), nx_xeO, g1, nw_bd, if_pos rfl, nw_curL h.1.1 p1 hpm b4]
        rfl
      · rw [(g2 0 7 rfl).1, h1]
      · have e1 := nx_kth_lt hk
        have e2 := nx_apb h.1.1 (fr := fr) (to := to)
        have e3 : nw_W N := h.1.1
        have e4 : (nw_ap N fr to).length ≤ 2 ^ 24 := e2
        omega
    · refine ⟨_, _, τ, Or.inr ⟨fr, to, k, rfl, Or.inr ⟨?_, rfl, rfl⟩⟩, ?_, nx_hA h (nx_pAi g2) ⟨by rw [(g2 0 7 rfl).1, h1], a1, a2, a3, a4, cur, a5, g4, a7⟩⟩
      · have e1 : nx_rank N fr to cur = k := nx_cur_r h.1.1 a7
        rw [← e1]
        exact nx_rank_top g3
      · unfold f_L_draws f_X7_nextPath f_X7_requireStarted
        rw [if_pos rfl, h1, if_neg (by decide), nx_xeO, g1, nw_bd, if_neg (show ¬ false = true by decide)]
        rfl
theorem nx_D0 (z : Int32) (h0 : nx_H (N, P, K) σ0) : ∃ a p', nx_R0 N P K a p' ∧ nx_D (N, P, K) (fun σ => f_L_draws σ (0 : Int32) z) a p' :=
  nx_det (fun a b p1 p2 => nx_R0_u h0.1.1) (fun σ h => nx_d0 z h) h0
theorem nx_pd {fr to k : Nat} (h : nx_H (N, some (fr, to, k), K) σ) : f_X7_pathsDrawn σ = .ok (nI k) := by
  obtain ⟨h1, a1, a2, a3, a4, cur, a5, ⟨pg, nx, b1, b2, b3, -⟩, a7⟩ := h.2.1
  unfold f_X7_pathsDrawn f_X7_requireStarted f_X5_drawnTotal
  rw [h1, b3]; rfl
theorem nx_has {fr to k : Nat} (h : nx_H (N, some (fr, to, k + 1), K) σ) : ∃ q, nx_kth N fr to k q := by
  obtain ⟨h1, a1, a2, a3, a4, cur, a5, a6, a7⟩ := h.2.1
  rcases a7 with ⟨a7, -⟩ | ⟨q, j, a7, a8, -⟩
  · omega
  · have : k = j := by omega
    subst this
    exact ⟨q, a8⟩
theorem nx_kk {fr to k cur : Nat} {q : List Nat} (hW : nw_W N) (h : nx_cur N fr to (k + 1) cur) (hq : nx_kth N fr to k q) : cur = nw_key N q := by
  rcases h with ⟨h, -⟩ | ⟨q', j, h, h2, h3⟩
  · omega
  · have : k = j := by omega
    subst this
    rw [h3, nx_kth_u hW h2 hq]
theorem nx_pe {fr to k : Nat} {q : List Nat} (h : nx_H (N, some (fr, to, k + 1), K) σ) (hq : nx_kth N fr to k q) : f_X7_pathEdges σ = some (.ok (nI q.length)) ∧ ∀ e, q[0]? = some e → f_X7_pathEdge σ (0 : Int32) = .ok (nI e) := by
  obtain ⟨h1, a1, a2, a3, a4, cur, a5, ⟨pg, nx, b1, b2, b3, b4, -⟩, a7⟩ := h.2.1
  have hgm := nw_gm_ap h.1.1 (fr := fr) (to := to)
  obtain ⟨p1, p2, p3⟩ := hgm.1.2 q hq.1
  have hcur : cur = nw_key N q := nx_kk h.1.1 a7 hq
  rw [hcur] at b4
  have hk0 : ¬ nI (k + 1) = 0 := nI_ne0 (by omega) (by omega)
  refine ⟨?_, fun e he => ?_⟩
  · unfold f_X7_pathEdges f_X7_requireStarted f_X5_drawnTotal f_X7_requireDrawn
    rw [h1, b3, if_neg (by decide), nx_xeO, if_neg hk0, nx_xeO, nw_size h.1.1 p1 (hgm.2 q hq.1) b4]
    rfl
  · unfold f_X7_pathEdge f_X7_requireStarted f_X5_drawnTotal f_X7_requireDrawn f_X7_requireListed
    have hce : f_X5_currentEdge σ (0 : Int32) = nI e := nw_curI h.1.1 p1 (hgm.2 q hq.1) b4 he
    have heb := p3 e (List.mem_of_getElem? he)
    rw [h1, b3, if_neg (by decide), nx_xeO, if_neg hk0, nx_xeO, hce, if_neg (nw_nm1 (by omega))]
    rfl
theorem nx_B1 (z : Int32) : ∃ a, nx_D (N, P, K) (fun σ => f_L_draws σ (1 : Int32) z) a (N, P, K) := by
  match P with
  | none =>
    refine ⟨(-99999 : Int32), fun σ h => ⟨σ, ?_, h⟩⟩
    have h7 : σ.1 0 7 = 0 := h.2.1
    show f_L_draws σ (1 : Int32) z = some ((-99999 : Int32), σ)
    unfold f_L_draws f_X7_pathsDrawn f_X7_requireStarted
    rw [h7]; rfl
  | some (fr, to, k) =>
    refine ⟨nI k, fun σ h => ⟨σ, ?_, h⟩⟩
    show f_L_draws σ (1 : Int32) z = some (nI k, σ)
    unfold f_L_draws
    rw [nx_pd h]; rfl
theorem nx_B2 (z : Int32) (h0 : nx_H (N, P, K) σ0) : ∃ a, nx_D (N, P, K) (fun σ => f_L_draws σ (2 : Int32) z) a (N, P, K) := by
  match P, h0 with
  | none, h0 =>
    refine ⟨(-99999 : Int32), fun σ h => ⟨σ, ?_, h⟩⟩
    have h7 : σ.1 0 7 = 0 := h.2.1
    show f_L_draws σ (2 : Int32) z = some ((-99999 : Int32), σ)
    unfold f_L_draws f_X7_pathEdges f_X7_requireStarted
    rw [h7]; rfl
  | some (fr, to, 0), h0 =>
    refine ⟨(-99998 : Int32), fun σ h => ⟨σ, ?_, h⟩⟩
    obtain ⟨h1, a1, a2, a3, a4, cur, a5, ⟨pg, nx, b1, b2, b3, -⟩, a7⟩ := h.2.1
    show f_L_draws σ (2 : Int32) z = some ((-99998 : Int32), σ)
    unfold f_L_draws f_X7_pathEdges f_X7_requireStarted f_X5_drawnTotal f_X7_requireDrawn
    rw [h1, b3]; rfl
  | some (fr, to, k + 1), h0 =>
    obtain ⟨q, hq⟩ := nx_has h0
    refine ⟨nI q.length, fun σ h => ⟨σ, ?_, h⟩⟩
    show f_L_draws σ (2 : Int32) z = some (nI q.length, σ)
    unfold f_L_draws
    rw [(nx_pe h hq).1]; rfl
theorem nx_B3 (h0 : nx_H (N, P, K) σ0) : ∃ a, nx_D (N, P, K) (fun σ => f_L_draws σ (3 : Int32) (0 : Int32)) a (N, P, K) := by
  match P, h0 with
  | none, h0 =>
    refine ⟨(-99999 : Int32), fun σ h => ⟨σ, ?_, h⟩⟩
    have h7 : σ.1 0 7 = 0 := h.2.1
    show f_L_draws σ (3 : Int32) (0 : Int32) = some ((-99999 : Int32), σ)
    unfold f_L_draws f_X7_pathEdge f_X7_requireStarted
    rw [h7]; rfl
  | some (fr, to, 0), h0 =>
    refine ⟨(-99998 : Int32), fun σ h => ⟨σ, ?_, h⟩⟩
    obtain ⟨h1, a1, a2, a3, a4, cur, a5, ⟨pg, nx, b1, b2, b3, -⟩, a7⟩ := h.2.1
    show f_L_draws σ (3 : Int32) (0 : Int32) = some ((-99998 : Int32), σ)
    unfold f_L_draws f_X7_pathEdge f_X7_requireStarted f_X5_drawnTotal f_X7_requireDrawn
    rw [h1, b3]; rfl
  | some (fr, to, k + 1), h0 =>
    obtain ⟨q, hq⟩ := nx_has h0
    have hq0 := ((nw_gm_ap h0.1.1 (fr := fr) (to := to)).1.2 q hq.1).2.1
    have he : q[0]? = some q[0] := List.getElem?_eq_getElem hq0
    refine ⟨nI q[0], fun σ h => ⟨σ, ?_, h⟩⟩
    show f_L_draws σ (3 : Int32) (0 : Int32) = some (nI q[0], σ)
    unfold f_L_draws
    rw [(nx_pe h hq).2 _ he]; rfl
/-! walks -/
def nx_R4 (N : nw_N) (P K : Option (Nat × Nat × Nat)) (a : Int32) (p' : nx_Pic) : Prop := (K = none ∧ a = (-99999 : Int32) ∧ p' = (N, P, K)) ∨ ∃ fr to k, K = some (fr, to, k) ∧ ((50 ≤ k ∧ a = (-99999 : Int32) ∧ p' = (N, P, K)) ∨ (k < 50 ∧ ∃ L, nw_at N to fr k L ∧ L ≤ 500000 ∧ a = nI L ∧ p' = (N, P, some (fr, to, k + 1))) ∨ (k < 50 ∧ (∀ T, nw_c N to fr T ≤ k) ∧ a = (-99998 : Int32) ∧ p' = (N, P, K)))
theorem nx_R4_u {a b : Int32} {p1 p2 : nx_Pic} (h : nx_R4 N P K a p1) (h' : nx_R4 N P K b p2) : a = b ∧ p1 = p2 := by
  rcases h with ⟨h1, h2, h3⟩ | ⟨fr, to, k, h1, h2⟩
  · rcases h' with ⟨g1, g2, g3⟩ | ⟨fr', to', k', g1, g2⟩
    · exact ⟨h2.trans g2.symm, h3.trans g3.symm⟩
    · rw [h1] at g1; cases g1
  · rcases h' with ⟨g1, g2, g3⟩ | ⟨fr', to', k', g1, g2⟩
    · rw [h1] at g1; cases g1
    · rw [h1] at g1
      cases g1
      rcases h2 with ⟨h2, h3, h4⟩ | ⟨h2, L, h3, h5, h6, h4⟩ | ⟨h2, h5, h3, h4⟩ <;> rcases g2 with ⟨g2, g3, g4⟩ | ⟨g2, L', g3, g5, g6, g4⟩ | ⟨g2, g5, g3, g4⟩
      · exact ⟨h3.trans g3.symm, h4.trans g4.symm⟩
      · omega
      · omega
      · omega
      · rw [nw_at_uniq h3 g3] at h6
        exact ⟨h6.trans g6.symm, h4.trans g4.symm⟩
      · have := g5 (L + 1); have := h3.2; omega
      · omega
      · have := h5 (L' + 1); have := g3.2; omega
      · exact ⟨h3.trans g3.symm, h4.trans g4.symm⟩
theorem nx_d4 (z : Int32) (h : nx_H (N, P, K) σ) : ∃ a p' τ, nx_R4 N P K a p' ∧ f_L_draws σ (4 : Int32) z = some (a, τ) ∧ nx_H p' τ := by
  have hn := h.1.1.n
  match K, h with
  | none, h =>
    have h7 : σ.1 0 8 = 0 := h.2.2
    refine ⟨_, _, σ, Or.inl ⟨rfl, rfl, rfl⟩, ?_, h⟩
    unfold f_L_draws f_X7_nextWalk f_X7_requireStarted
    rw [h7]; rfl
  | some (fr, to, k), h =>
    obtain ⟨h1, a1, a2, a3, a4⟩ := h.2.2
    have b1 : fr < nw_n N := a1
    have b2 : to < nw_n N := a2
    have b3 : 2 ≤ nw_n N ∧ nw_n N ≤ 10 ∧ nw_m N ≤ 24 := hn
    by_cases c50 : k < 50
    · rcases nw_wadv h.1.1 (show to < 10 by omega) (show fr < 10 by omega) c50 h.1.2.1 h.1.2.2.1 a4 with ⟨τ, g1, g2, g3⟩ | ⟨τ, g1, g2, g3, g4⟩
      · obtain ⟨w, L, w1, w2, w3, w4, w5, w6, w7, w8⟩ := nw_wcur h.1.1 (show fr < 10 by omega) g3
        refine ⟨_, _, τ, Or.inr ⟨fr, to, k, rfl, Or.inr (Or.inl ⟨c50, L, w2, w4, rfl, rfl⟩)⟩, ?_, nx_hW h (nx_pWi g2) ⟨by rw [(g2 0 8 rfl).1, h1], a1, a2, by omega, g3⟩⟩
        unfold f_L_draws f_X7_nextWalk f_X7_requireStarted f_X6_drawnTotal
        rw [if_neg (by decide), if_neg (by decide), if_neg (by decide), if_neg (by decide), if_pos rfl, h1, if_neg (by decide), nx_xeO, a4.2.1, if_pos (show nI k < (50 : Int32) from nI_lt (b := 50) c50 (by omega)), g1, nw_bd, if_pos rfl, w6]
        rfl
      · refine ⟨_, _, τ, Or.inr ⟨fr, to, k, rfl, Or.inr (Or.inr ⟨c50, g4, rfl, rfl⟩)⟩, ?_, nx_hW h (nx_pWi g2) ⟨by rw [(g2 0 8 rfl).1, h1], a1, a2, a3, g3⟩⟩
        unfold f_L_draws f_X7_nextWalk f_X7_requireStarted f_X6_drawnTotal
        rw [if_neg (by decide), if_neg (by decide), if_neg (by decide), if_neg (by decide), if_pos rfl, h1, if_neg (by decide), nx_xeO, a4.2.1, if_pos (show nI k < (50 : Int32) from nI_lt (b := 50) c50 (by omega)), g1, nw_bd, if_neg (show ¬ false = true by decide)]
        rfl
    · refine ⟨_, _, σ, Or.inr ⟨fr, to, k, rfl, Or.inl ⟨by omega, rfl, rfl⟩⟩, ?_, h⟩
      unfold f_L_draws f_X7_nextWalk f_X7_requireStarted f_X6_drawnTotal
      rw [if_neg (by decide), if_neg (by decide), if_neg (by decide), if_neg (by decide), if_pos rfl, h1, if_neg (by decide), nx_xeO, a4.2.1, if_neg (show ¬ nI k < (50 : Int32) from nI_nlt (b := 50) (by omega) (by omega))]
      rfl
theorem nx_D4 (z : Int32) (h0 : nx_H (N, P, K) σ0) : ∃ a p', nx_R4 N P K a p' ∧ nx_D (N, P, K) (fun σ => f_L_draws σ (4 : Int32) z) a p' :=
  nx_det (fun a b p1 p2 => nx_R4_u) (fun σ h => nx_d4 z h) h0
theorem nx_wd {fr to k : Nat} (h : nx_H (N, P, some (fr, to, k)) σ) : f_X7_walksDrawn σ = .ok (nI k) := by
  obtain ⟨h1, a1, a2, a3, a4⟩ := h.2.2
  unfold f_X7_walksDrawn f_X7_requireStarted f_X6_drawnTotal
  rw [h1, a4.2.1]; rfl
theorem nx_we {fr to k : Nat} (h : nx_H (N, P, some (fr, to, k + 1)) σ) : ∃ w, nw_ww N to w fr k ∧ w.length < 500 ∧ f_X7_walkEdges σ = .ok (nI w.length) ∧ f_L_draws σ (7 : Int32) (nI w.length) = some ((-99998 : Int32), σ) ∧ f_L_draws σ (7 : Int32) (0 : Int32) = some ((match w[0]? with | some e => nI e | none => (-99998 : Int32)), σ) := by
  obtain ⟨h1, a1, a2, a3, a4⟩ := h.2.2
  have hn := h.1.1.n
  have b1 : fr < nw_n N := a1
  have b3 : 2 ≤ nw_n N ∧ nw_n N ≤ 10 ∧ nw_m N ≤ 24 := hn
  obtain ⟨w, L, w1, w2, w3, w4, w5, w6, w7, w8, w9, w10⟩ := nw_wcur h.1.1 (show fr < 10 by omega) a4
  have hk0 : ¬ nI (k + 1) = 0 := nI_ne0 (by omega) (by omega)
  have hcl : ∀ r z, f_X6_currentEdge σ r = some z → f_L_draws σ (7 : Int32) r = if z = (-1 : Int32) then some ((-99998 : Int32), σ) else some (z, σ) := fun r z hz => by
    unfold f_L_draws f_X7_walkEdge f_X7_requireStarted f_X6_drawnTotal f_X7_requireDrawn f_X7_requireListed
    rw [if_neg (by decide), if_neg (by decide), if_neg (by decide), if_neg (by decide), if_neg (by decide), if_neg (by decide), if_neg (by decide), h1, a4.2.1, if_neg (by decide), nx_xeO, if_neg hk0, nx_xeO, hz, nw_bd]
    by_cases cz : z = (-1 : Int32)
    · rw [if_pos cz, if_pos cz]; rfl
    · rw [if_neg cz, if_neg cz]; rfl
  refine ⟨w, w1, w5, ?_, ?_, ?_⟩
  · unfold f_X7_walkEdges f_X7_requireStarted f_X6_drawnTotal f_X7_requireDrawn
    rw [h1, a4.2.1, if_neg (by decide), nx_xeO, if_neg hk0, nx_xeO, w7]
  · rw [hcl _ _ (w10 (nI w.length) (nI_pos (by omega)) (fun h => absurd h (nI_nlt (Nat.le_refl _) (by omega)))), if_pos rfl]
  · cases hw : w[0]? with
    | none =>
      have h0 : w.length = 0 := by simpa using hw
      rw [hcl _ _ (w10 (0 : Int32) (by decide) (by rw [h0]; decide)), if_pos rfl]
    | some e =>
      have hwm : ∀ (q : List Nat) (v r : Nat), nw_ww N to q v r → ∀ e ∈ q, e < nw_m N := fun q => by
        induction q with
        | nil => intro v r _ e he; simp at he
        | cons e q ihq =>
          intro v r hw e' he'
          obtain ⟨L, r', -, -, m3, -, -, -, -, m8⟩ := hw
          rcases List.mem_cons.mp he' with rfl | he'
          · exact m3
          · exact ihq _ _ m8 e' he'
      have hxb := hwm w _ _ w1 e (List.mem_of_getElem? hw)
      rw [hcl (0 : Int32) _ (w8 0 e hw), if_neg (nw_nm1 (by omega))]
theorem nx_B5 (z : Int32) : ∃ a, nx_D (N, P, K) (fun σ => f_L_draws σ (5 : Int32) z) a (N, P, K) := by
  match K with
  | none =>
    refine ⟨(-99999 : Int32), fun σ h => ⟨σ, ?_, h⟩⟩
    have h7 : σ.1 0 8 = 0 := h.2.2
    show f_L_draws σ (5 : Int32) z = some ((-99999 : Int32), σ)
    unfold f_L_draws f_X7_walksDrawn f_X7_requireStarted
    rw [h7]; rfl
  | some (fr, to, k) =>
    refine ⟨nI k, fun σ h => ⟨σ, ?_, h⟩⟩
    show f_L_draws σ (5 : Int32) z = some (nI k, σ)
    unfold f_L_draws
    rw [nx_wd h]; rfl
theorem nx_B67 (h0 : nx_H (N, P, K) σ0) : (∃ a, nx_D (N, P, K) (fun σ => f_L_draws σ (6 : Int32) (0 : Int32)) a (N, P, K)) ∧ ∃ a, nx_D (N, P, K) (fun σ => f_L_draws σ (7 : Int32) (0 : Int32)) a (N, P, K) := by
  match K, h0 with
  | none, h0 =>
    refine ⟨⟨(-99999 : Int32), fun σ h => ⟨σ, ?_, h⟩⟩, ⟨(-99999 : Int32), fun σ h => ⟨σ, ?_, h⟩⟩⟩
    · have h7 : σ.1 0 8 = 0 := h.2.2
      show f_L_draws σ (6 : Int32) (0 : Int32) = some ((-99999 : Int32), σ)
      unfold f_L_draws f_X7_walkEdges f_X7_requireStarted
      rw [h7]; rfl
    · have h7 : σ.1 0 8 = 0 := h.2.2
      show f_L_draws σ (7 : Int32) (0 : Int32) = some ((-99999 : Int32), σ)
      unfold f_L_draws f_X7_walkEdge f_X7_requireStarted
      rw [h7]; rfl
  | some (fr, to, 0), h0 =>
    refine ⟨⟨(-99998 : Int32), fun σ h => ⟨σ, ?_, h⟩⟩, ⟨(-99998 : Int32), fun σ h => ⟨σ, ?_, h⟩⟩⟩
    · obtain ⟨h1, a1, a2, a3, a4⟩ := h.2.2
      show f_L_draws σ (6 : Int32) (0 : Int32) = some ((-99998 : Int32), σ)
      unfold f_L_draws f_X7_walkEdges f_X7_requireStarted f_X6_drawnTotal f_X7_requireDrawn
      rw [h1, a4.2.1]; rfl
    · obtain ⟨h1, a1, a2, a3, a4⟩ := h.2.2
      show f_L_draws σ (7 : Int32) (0 : Int32) = some ((-99998 : Int32), σ)
      unfold f_L_draws f_X7_walkEdge f_X7_requireStarted f_X6_drawnTotal f_X7_requireDrawn
      rw [h1, a4.2.1]; rfl
  | some (fr, to, k + 1), h0 =>
    obtain ⟨w, w1, w2, w3, w4, w5⟩ := nx_we h0
    refine ⟨⟨nI w.length, fun σ h => ⟨σ, ?_, h⟩⟩, ⟨(match w[0]? with | some e => nI e | none => (-99998 : Int32)), fun σ h => ⟨σ, ?_, h⟩⟩⟩
    · obtain ⟨w', v1, v2, v3, v4, v5⟩ := nx_we h
      have := nw_ww_uniq w w' _ _ w1 v1
      subst this
      show f_L_draws σ (6 : Int32) (0 : Int32) = some (nI w.length, σ)
      unfold f_L_draws
      rw [v3]; rfl
    · obtain ⟨w', v1, v2, v3, v4, v5⟩ := nx_we h
      have := nw_ww_uniq w w' _ _ w1 v1
      subst this
      exact v5
/-! starts -/
def nx_R1 (N : nw_N) (P K : Option (Nat × Nat × Nat)) (x y a : Int32) (p' : nx_Pic) : Prop := (∃ i j, i < nw_n N ∧ j < nw_n N ∧ i ≠ j ∧ x = nI i ∧ y = nI j ∧ a = (1 : Int32) ∧ p' = (N, some (i, j, 0), K)) ∨ ((nx_nn (nw_n N) x ∨ nx_nn (nw_n N) y ∨ x = y) ∧ a = (-99999 : Int32) ∧ p' = (N, P, K))
theorem nx_S1 (x y : Int32) (h0 : nx_H (N, P, K) σ0) : ∃ a p', nx_R1 N P K x y a p' ∧ nx_D (N, P, K) (fun σ => f_L_starts σ (1 : Int32) x y) a p' := by
  have hn := h0.1.1.n
  have hn : 2 ≤ nw_n N ∧ nw_n N ≤ 10 ∧ nw_m N ≤ 24 := hn
  refine nx_det (fun a b p1 p2 h h' => ?_) (fun σ h => ?_) h0
  · rcases h with ⟨i, j, h1, h2, h3, h4, h5, h6, h7⟩ | ⟨h1, h6, h7⟩ <;> rcases h' with ⟨i', j', g1, g2, g3, g4, g5, g6, g7⟩ | ⟨g1, g6, g7⟩
    · have e1 : i = i' := (nI_eq (by omega) (by omega)).mp (h4.symm.trans g4)
      have e2 : j = j' := (nI_eq (by omega) (by omega)).mp (h5.symm.trans g5)
      subst e1; subst e2
      exact ⟨h6.trans g6.symm, h7.trans g7.symm⟩
    · exact absurd g1 (nx_two_no hn.2.1 h1 h2 h3 h4 h5)
    · exact absurd h1 (nx_two_no hn.2.1 g1 g2 g3 g4 g5)
    · exact ⟨h6.trans g6.symm, h7.trans g7.symm⟩
  · rcases nx_two h.1 x y with ⟨i, j, hi, hj, hne, rfl, rfl, e1⟩ | ⟨e0, e1⟩
    · have hf1 : nw_f nx_pA2 σ (jv_si (f_X5_restart σ (nI i) (nI j)) 0 7 (1 : Int32)) := ((((((nw_f.rfl.si (by rfl)).si (by rfl)).si (by rfl)).sl (by rfl)).si (by rfl)).si (by rfl)).si (by rfl)
      refine ⟨_, _, jv_si (f_X5_restart σ (nI i) (nI j)) 0 7 (1 : Int32), Or.inl ⟨i, j, hi, hj, hne, rfl, rfl, rfl, rfl⟩, ?_, nx_hA h hf1 ⟨by simp [nw_g], hi, hj, hne, by decide, 0, by decide, ⟨[], 0, ?_, ?_, ?_, ?_, ⟨by simp, ?_, by simp, by simp⟩, ?_, by simp, ?_⟩, Or.inl ⟨rfl, rfl⟩⟩⟩
      · show f_L_starts σ (1 : Int32) (nI i) (nI j) = _
        unfold f_L_starts f_L_startPaths f_X7_startPaths
        rw [e1]
        rfl
      · simp [nw_g, f_X5_restart, nw_h1]
      · simp [nw_g, f_X5_restart, nw_h1]
      · simp [nw_g, f_X5_restart, nw_h1]; rfl
      · simp [nw_g2, f_X5_restart, nw_hs]; rfl
      · simp [nw_g, f_X5_restart, nw_h1]; rfl
      · simp [nw_g, f_X5_restart, nw_h1]; rfl
      · exact ⟨by simp, by simp, fun p hp hc => Or.inr (by simp)⟩
    · refine ⟨_, _, σ, Or.inr ⟨e0, rfl, rfl⟩, ?_, h⟩
      show f_L_starts σ (1 : Int32) x y = _
      unfold f_L_starts f_L_startPaths f_X7_startPaths
      rw [e1]
      rfl
def nx_R2 (N : nw_N) (P K : Option (Nat × Nat × Nat)) (x y a : Int32) (p' : nx_Pic) : Prop := (∃ i j, i < nw_n N ∧ j < nw_n N ∧ x = nI i ∧ y = nI j ∧ a = (1 : Int32) ∧ p' = (N, P, some (i, j, 0))) ∨ ((nx_nn (nw_n N) x ∨ nx_nn (nw_n N) y) ∧ a = (-99999 : Int32) ∧ p' = (N, P, K))
theorem nw_wrest (hW : nw_W N) {i j : Nat} (hj : j < 10) : nw_f nw_pW σ (f_X6_restart σ (nI i) (nI j)) ∧ nw_WC N i j 0 (f_X6_restart σ (nI i) (nI j)) := by
  have hdef : f_X6_restart σ (nI i) (nI j) = jv_si (jv_si (jv_si (jv_si (jv_si (jv_fl (jv_fl (jv_si (jv_si σ 17 7 (nI i)) 17 8 (0 : Int32)) 22 10 (0 : Int32)) 23 24 (0 : Int32)) 18 (j * 50) (0 : Int32)) 19 (j * 50) (0 : Int32)) 20 (j * 50) (-1 : Int32)) 21 (j * 50) (0 : Int32)) 22 j (nI 1) := by
    unfold f_X6_restart f_X6_list
    have e22 : (jv_fl (jv_fl (jv_si (jv_si σ 17 7 (nI i)) 17 8 (0 : Int32)) 22 10 (0 : Int32)) 23 24 (0 : Int32)).1 22 j = nI 0 := by rw [nw_fln (by decide), nw_fl, if_pos hj]; rfl
    have e1 : ∀ σ : jv_S, f_X6_entry σ (nI j) (nI 0) = nI (j * 50) := fun σ => by
      unfold f_X6_entry
      rw [show (50 : Int32) = nI 50 from rfl, pk_mul, nI_add, Nat.add_zero]
    rw [nw_rd (n := 10) hj (by omega), e22, e1, nw_wr (n := 500) (by omega) (by omega), nw_wr (n := 500) (by omega) (by omega), nw_wr (n := 500) (by omega) (by omega), nw_wr (n := 500) (by omega) (by omega), nw_gn (by decide), nw_gn (by decide), nw_gn (by decide), nw_gn (by decide), nw_rd (n := 10) hj (by omega), e22, nI_1, nw_wr (n := 10) hj (by omega)]
    rfl
  rw [hdef]
  refine ⟨((((((((nw_f.rfl.si (by rfl)).si (by rfl)).fl (fun _ => rfl)).fl (fun _ => rfl)).si (by rfl)).si (by rfl)).si (by rfl)).si (by rfl)).si (by rfl), ?_, ?_, fun v => if v = j then 1 else 0, 1, ⟨fun _ _ => 0, fun _ => 0, fun _ _ => 0, fun _ _ => 0, fun _ _ => 0, 0, nw_L0 hj rfl rfl, ⟨fun v hv => ?_, fun e he => ?_, fun v hv r hr => ?_⟩, ?_⟩, by omega, ?_⟩
  · rw [nw_gn (by decide), nw_gn (by decide), nw_gn (by decide), nw_gn (by decide), nw_gn (by decide), nw_fln (by decide), nw_fln (by decide), nw_gj (by decide), nw_gs]
  · rw [nw_gn (by decide), nw_gn (by decide), nw_gn (by decide), nw_gn (by decide), nw_gn (by decide), nw_fln (by decide), nw_fln (by decide), nw_gs]; rfl
  · by_cases e : v = j
    · show _ = nI (if v = j then 1 else 0)
      rw [e, nw_gs, if_pos rfl]
    · show _ = nI (if v = j then 1 else 0)
      rw [nw_gj e, if_neg e, nw_gn (by decide), nw_gn (by decide), nw_gn (by decide), nw_gn (by decide), nw_fln (by decide), nw_fl, if_pos hv]; rfl
  · rw [nw_gn (by decide), nw_gn (by decide), nw_gn (by decide), nw_gn (by decide), nw_gn (by decide), nw_fl, if_pos he]; rfl
  · have hr' : r < if v = j then 1 else 0 := hr
    by_cases e : v = j
    · rw [if_pos e] at hr'
      have hr0 : r = 0 := by omega
      subst hr0; subst e
      refine ⟨?_, ?_, fun h => absurd h (Nat.lt_irrefl _), Nat.zero_le _, ?_⟩
      · rw [Nat.add_zero, nw_gn (by decide), nw_gn (by decide), nw_gn (by decide), nw_gn (by decide), nw_gs]; rfl
      · rw [Nat.add_zero, nw_gn (by decide), nw_gn (by decide), nw_gn (by decide), nw_gs]; rfl
      · rw [nw_S_one hj]; omega
    · rw [if_neg e] at hr'; omega
  · rw [nw_S_one hj]
  · exact Nat.zero_le _
theorem nx_S2 (x y : Int32) (h0 : nx_H (N, P, K) σ0) : ∃ a p', nx_R2 N P K x y a p' ∧ nx_D (N, P, K) (fun σ => f_L_starts σ (2 : Int32) x y) a p' := by
  have hn := h0.1.1.n
  have hn : 2 ≤ nw_n N ∧ nw_n N ≤ 10 ∧ nw_m N ≤ 24 := hn
  refine nx_det (fun a b p1 p2 h h' => ?_) (fun σ h => ?_) h0
  · rcases h with ⟨i, j, h1, h2, h4, h5, h6, h7⟩ | ⟨h1, h6, h7⟩ <;> rcases h' with ⟨i', j', g1, g2, g4, g5, g6, g7⟩ | ⟨g1, g6, g7⟩
    · have e1 : i = i' := (nI_eq (by omega) (by omega)).mp (h4.symm.trans g4)
      have e2 : j = j' := (nI_eq (by omega) (by omega)).mp (h5.symm.trans g5)
      subst e1; subst e2
      exact ⟨h6.trans g6.symm, h7.trans g7.symm⟩
    · rcases g1 with g1 | g1
      · rw [h4] at g1; exact absurd g1 (nx_out2 h1 (by omega))
      · rw [h5] at g1; exact absurd g1 (nx_out2 h2 (by omega))
    · rcases h1 with h1 | h1
      · rw [g4] at h1; exact absurd h1 (nx_out2 g1 (by omega))
      · rw [g5] at h1; exact absurd h1 (nx_out2 g2 (by omega))
    · exact ⟨h6.trans g6.symm, h7.trans g7.symm⟩
  · rcases nx_nodes2 h.1 x y with ⟨i, j, hi, hj, rfl, rfl, e1⟩ | ⟨e0, e1⟩
    · have hj' : j < nw_n N := hj
      obtain ⟨g1, g2⟩ := nw_wrest (σ := σ) h.1.1 (i := i) (show j < 10 by omega)
      refine ⟨_, _, jv_si (f_X6_restart σ (nI i) (nI j)) 0 8 (1 : Int32), Or.inl ⟨i, j, hi, hj, rfl, rfl, rfl, rfl⟩, ?_, nx_hW h ((nx_pWi g1).si (by rfl)) ⟨by rw [nw_gs], hi, hj, by omega, g2.keep (fun a _ => by rw [nw_gn (by decide)]) (fun k h1 h2 => by rw [nw_gn (by omega)])⟩⟩
      show f_L_starts σ (2 : Int32) (nI i) (nI j) = _
      unfold f_L_starts f_L_startWalks f_X7_startWalks
      rw [e1]
      rfl
    · refine ⟨_, _, σ, Or.inr ⟨e0, rfl, rfl⟩, ?_, h⟩
      show f_L_starts σ (2 : Int32) x y = _
      unfold f_L_starts f_L_startWalks f_X7_startWalks
      rw [e1]
      rfl
end NXDR
