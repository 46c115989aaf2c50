/-! ===== the questions ===== -/
theorem nw_xeE {α β : Type} {e : String} {f : String → β} {g : α → β} : jv_xe (.error e : Except String α) f g = f e := rfl
theorem nw_xeO {α β : Type} {a : α} {f : String → β} {g : α → β} : jv_xe (.ok a : Except String α) f g = g a := rfl
theorem nw_h0 {σ : jv_S} : f_X8_holds σ (0 : Int32) = (true, jv_si σ 35 0 (0 : Int32)) := rfl
theorem nw_hk {σ : jv_S} {k : Int32} (h : k ≠ 0) : f_X8_holds σ k = (false, jv_si σ 35 0 k) := by unfold f_X8_holds; rw [if_neg h]; rfl
def nw_all (N : nw_N) (c : Nat) (σ : jv_S) : Prop := nw_net N σ ∧ nw_IP N c σ ∧ nw_IW N σ
theorem nw_pSCr {a : Nat} (ha : a = 9 ∨ a = 13 ∨ a = 14 ∨ a = 16 ∨ a = 57 ∨ a = 33) {σ τ : jv_S} (h : nw_f (nw_r a) σ τ) : nw_f nw_pSC σ τ := h.mono (fun k j h => by
  simp only [nw_r, nw_pSC, Bool.or_eq_true, Bool.and_eq_true, beq_iff_eq, Bool.or_eq_false_iff, Bool.and_eq_false_iff, beq_eq_false_iff_ne] at h ⊢
  omega)
theorem nw_pSCG {σ τ : jv_S} (h : nw_f nw_pG σ τ) : nw_f nw_pSC σ τ := h.mono (fun k j h => by
  simp only [nw_pG, nw_pSC, Bool.or_eq_true, Bool.and_eq_true, beq_iff_eq, Bool.or_eq_false_iff, Bool.and_eq_false_iff, beq_eq_false_iff_ne] at h ⊢
  omega)
theorem nw_pSCT {σ τ : jv_S} (h : nw_f nw_pT σ τ) : nw_f nw_pSC σ τ := h.mono (fun k j h => by
  simp only [nw_pT, nw_pSC, Bool.or_eq_true, Bool.and_eq_true, beq_iff_eq, Bool.or_eq_false_iff, Bool.and_eq_false_iff, beq_eq_false_iff_ne, decide_eq_false_iff_not] at h ⊢
  omega)
theorem nw_pSCS {σ τ : jv_S} (h : nw_f nw_pS σ τ) : nw_f nw_pSC σ τ := h.mono (fun k j h => by
  simp only [nw_pS, nw_pSC, Bool.or_eq_true, Bool.and_eq_true, beq_iff_eq, Bool.or_eq_false_iff, Bool.and_eq_false_iff, beq_eq_false_iff_ne] at h ⊢
  omega)
theorem nw_pSCY {σ τ : jv_S} (h : nw_f nw_pY2 σ τ) : nw_f nw_pSC σ τ := h.mono (fun k j h => by
  simp only [nw_pY2, nw_pSC, Bool.or_eq_true, Bool.and_eq_true, beq_iff_eq, Bool.or_eq_false_iff, Bool.and_eq_false_iff, beq_eq_false_iff_ne] at h ⊢
  omega)
theorem nw_pSCZ {σ τ : jv_S} (h : nw_f nw_pZ2 σ τ) : nw_f nw_pSC σ τ := h.mono (fun k j h => by
  simp only [nw_pZ2, nw_pSC, Bool.or_eq_true, Bool.and_eq_true, beq_iff_eq, Bool.or_eq_false_iff, Bool.and_eq_false_iff, beq_eq_false_iff_ne] at h ⊢
  omega)
section NWQA
variable {N : nw_N} {c : Nat} {σ : jv_S}
theorem nw_ltF {x : Nat} (h : x < 1000000000) : nI x < (1000000000 : Int32) := nI_lt (b := 1000000000) h (by omega)
theorem nw_nltF {x : Nat} (h : ¬ x < 1000000000) (hb : x < 2 ^ 31) : ¬ nI x < (1000000000 : Int32) := nI_nlt (b := 1000000000) (by omega) hb
theorem nw_neF {x : Nat} (h : x < 1000000000) : ¬ nI x = (1000000000 : Int32) := fun e => by have := (nI_eq (b := 1000000000) (by omega) (by omega)).mp e; omega
theorem nw_q6 (h : nw_all N c σ) : ∃ τ, jv_lt (f_X8_nodes σ) (fun q1 => if (f_X7_nodes σ) = q1.1 then (some q1.2) else (none)) = some τ ∧ nw_I (c + 1) τ := by
  refine ⟨jv_si σ 35 0 (0 : Int32), ?_, nw_scr h (by omega) (nw_f.rfl.si (by rfl))⟩
  unfold f_X8_nodes f_X7_nodes f_X3_nodeTotal
  rw [nw_lt, if_pos]
  show σ.1 1 6 = σ.1 35 1
  rw [h.1.2.1.1, h.1.2.2.2.1.1]
theorem nw_q7 (h : nw_all N c σ) : ∃ τ, jv_lt (f_X8_edges σ) (fun q1 => if (f_X7_edges σ) = q1.1 then (some q1.2) else (none)) = some τ ∧ nw_I (c + 1) τ := by
  refine ⟨jv_si σ 35 0 (0 : Int32), ?_, nw_scr h (by omega) (nw_f.rfl.si (by rfl))⟩
  unfold f_X8_edges f_X7_edges f_X3_edgeTotal
  rw [nw_lt, if_pos]
  show σ.1 1 7 = σ.1 35 2
  rw [h.1.2.1.2.1, h.1.2.2.2.1.2.1]
theorem nw_uslp (hW : nw_W N) {σ : jv_S} (hM : nw_M N σ) : ∀ (k j fuel s : Nat), j + k = nw_m N → k < fuel → ∃ z, f_X8_usableEdges_lp9 fuel (nI s) (nI j) σ = some (nI (s + (List.range' j k).countP (fun e => nw_us N e)), z) := by
  have hn := hW.n
  intro k
  induction k with
  | zero =>
    intro j fuel s hj hf
    obtain ⟨f, rfl⟩ := nw_f0 hf
    exact ⟨nI j, by rw [f_X8_usableEdges_lp9, hM.2.1, if_pos (nI_le (by omega) (by omega))]; rfl⟩
  | succ k ih =>
    intro j fuel s hj hf
    obtain ⟨f, rfl, hg⟩ := nw_fe hf
    rw [f_X8_usableEdges_lp9, hM.2.1, if_neg (nI_ge (by omega) (by omega)), nw_usM hW hM (by omega), nw_bd, nw_lt, nI_1, nw_rg, List.countP_cons]
    cases hus : nw_us N j
    · obtain ⟨z, hz⟩ := ih (j + 1) f s (by omega) hg
      refine ⟨z, ?_⟩
      rw [show nI s + jv_b (if false = true then true else false) = nI s by show nI s + nI 0 = _; rw [nI_add]; rfl, hz]
      rfl
    · obtain ⟨z, hz⟩ := ih (j + 1) f (s + 1) (by omega) hg
      refine ⟨z, ?_⟩
      rw [show nI s + jv_b (if true = true then true else false) = nI (s + 1) from nI_1 s, hz, if_pos rfl]
      congr 2
      congr 1
      omega
theorem nw_q8 (h : nw_all N c σ) : ∃ τ, jv_bd (f_X8_usableEdges σ) (fun q1 => if (f_X7_usableEdges σ) = q1.1 then (some q1.2) else (none)) = some τ ∧ nw_I (c + 1) τ := by
  have hn := h.1.1.n
  have hf : nw_f nw_pSC σ (jv_si σ 35 0 (0 : Int32)) := nw_f.rfl.si (by rfl)
  obtain ⟨z, hz⟩ := nw_uslp h.1.1 (hf.keepM h.1.2.2.2.1 nw_pSC_M) (nw_m N) 0 jv_fuel 0 (by omega) (nw_fu (by omega))
  refine ⟨jv_si σ 35 0 (0 : Int32), ?_, nw_scr h (by omega) hf⟩
  unfold f_X8_usableEdges f_X7_usableEdges
  rw [nw_tot h.1.2.2.1, show f_X8_usableEdges_lp9 jv_fuel (0 : Int32) (0 : Int32) (jv_si σ 35 0 (0 : Int32)) = _ from hz, nw_bd, nw_bd, if_pos]
  show nI (nw_pv N 10) = nI (0 + (List.range' 0 (nw_m N)).countP (fun e => nw_us N e))
  rw [Nat.zero_add]
  unfold nw_pv
  congr 1
  refine List.countP_congr (fun e he => ?_)
  rw [nw_rgm] at he
  have := h.1.1.e (show e < nw_m N by omega)
  simp
  omega
theorem nw_q9 (h : nw_all N c σ) (p q : Int32) : ∃ τ, jv_bd (f_L_distance σ p q) (fun q3 => jv_bd (f_X8_distance q3.2 p q) (fun q6 => nw_fin q3.1 q6)) = some τ ∧ nw_I (c + 1) τ := by
  obtain ⟨hnet, -, -⟩ := id h
  have hn := hnet.1.n
  have hM := hnet.2.2.2.1
  rcases nw_nodes2 hnet p q with ⟨i, j, hi, hj, rfl, rfl, e1, e2⟩ | ⟨e1, e2⟩
  · obtain ⟨τ, x, g1, g2, g3, g4⟩ := nw_measure hnet.1 (a := 9) (by omega) hnet.2.1 hnet.2.2.1 (show j < 10 by omega)
    have hfτ : nw_f nw_pSC σ τ := nw_pSCr (by omega) g2
    have hbx := (g4.1 i (by omega)).1
    by_cases cx : x i < 1000000000
    · have hcl : f_L_distance σ (nI i) (nI j) = some ((0 : Int32), jv_sl τ 61 0 (nI (x i)).toInt64) := by
        unfold f_L_distance f_X7_distance
        rw [e1, nw_xeO, g1, nw_bd, nw_ofN g3 (by omega)]
        unfold f_X7_requireWay
        rw [if_pos (nw_ltF cx)]
        rfl
      have hf1 : nw_f nw_pSC σ (jv_sl τ 61 0 (nI (x i)).toInt64) := hfτ.sl (by rfl)
      have hM1 := hf1.keepM hM nw_pSC_M
      obtain ⟨ρ, y, k1, k2, k3, k4⟩ := nw_short hnet.1 hM1 hi hj
      have hxy := nw_same hnet.1 hi hj g4 k3 k4
      have hMρ := nw_keepM k2 hM1
      have hrf : f_X8_distance (jv_sl τ 61 0 (nI (x i)).toInt64) (nI i) (nI j) = some (nI (x i), jv_si ρ 35 0 (0 : Int32)) := by
        unfold f_X8_distance
        rw [if_pos (e2 _ hM1.1), k1, nw_bd, nw_bd, if_pos (e2 ρ hMρ.1), ← hxy, if_neg (nw_neF cx), nw_lt, nw_h0]
        rfl
      rw [hcl, nw_bd, hrf, nw_bd]
      refine ⟨_, nw_finO (x := nI (x i)) nw_gs ?_ rfl, nw_scr h (by omega) ((hf1.trans (nw_pSCr (by omega) k2)).si (by rfl))⟩
      rw [nw_g2, (k2.lng (k := 61) (fun _ => rfl)).2, nw_hs]
    · have hcl : f_L_distance σ (nI i) (nI j) = some ((2 : Int32), τ) := by
        unfold f_L_distance f_X7_distance
        rw [e1, nw_xeO, g1, nw_bd, nw_ofN g3 (by omega)]
        unfold f_X7_requireWay
        rw [if_neg (nw_nltF cx (by omega))]
        rfl
      have hM1 := hfτ.keepM hM nw_pSC_M
      obtain ⟨ρ, y, k1, k2, k3, k4⟩ := nw_short hnet.1 hM1 hi hj
      have hxy := nw_same hnet.1 hi hj g4 k3 k4
      have hMρ := nw_keepM k2 hM1
      have hrf : f_X8_distance τ (nI i) (nI j) = some (0, jv_si ρ 35 0 (2 : Int32)) := by
        unfold f_X8_distance
        rw [if_pos (e2 _ hM1.1), k1, nw_bd, nw_bd, if_pos (e2 ρ hMρ.1), ← hxy, if_pos (show nI (x i) = (1000000000 : Int32) by rw [show x i = 1000000000 by omega]; rfl), nw_lt, nw_hk (by decide)]
        rfl
      rw [hcl, nw_bd, hrf, nw_bd]
      exact ⟨_, nw_finE (k := 2) (by omega) (by omega) nw_gs, nw_scr h (by omega) ((hfτ.trans (nw_pSCr (by omega) k2)).si (by rfl))⟩
  · have hcl : f_L_distance σ p q = some ((1 : Int32), σ) := by
      unfold f_L_distance f_X7_distance
      rw [e1]
      rfl
    have hrf : f_X8_distance σ p q = some (0, jv_si σ 35 0 (1 : Int32)) := by
      unfold f_X8_distance
      rw [if_neg (by rw [e2 _ hM.1]; decide), nw_bd, if_neg (by show ¬ f_X8_areNodes σ p q = true; rw [e2 _ hM.1]; decide), nw_lt, nw_hk (by decide)]
      rfl
    rw [hcl, nw_bd, hrf, nw_bd]
    exact ⟨_, nw_finE (k := 1) (by omega) (by omega) nw_gs, nw_scr h (by omega) (nw_f.rfl.si (by rfl))⟩
theorem nw_q15 (h : nw_all N c σ) (p q r : Int32) : ∃ τ, jv_bd (f_L_countPaths σ p q r) (fun q4 => jv_bd (f_X8_countPaths q4.2 p q r) (fun q8 => nw_fin q4.1 q8)) = some τ ∧ nw_I (c + 1) τ := by
  obtain ⟨hnet, -, -⟩ := id h
  have hn := hnet.1.n
  have hM := hnet.2.2.2.1
  have herr : f_L_countPaths σ p q r = some ((1 : Int32), σ) → f_X8_countPaths σ p q r = some (0, jv_si σ 35 0 (1 : Int32)) → ∃ τ, jv_bd (f_L_countPaths σ p q r) (fun q4 => jv_bd (f_X8_countPaths q4.2 p q r) (fun q8 => nw_fin q4.1 q8)) = some τ ∧ nw_I (c + 1) τ := fun h1 h2 => by
    rw [h1, nw_bd, h2, nw_bd]
    exact ⟨_, nw_finE (k := 1) (by omega) (by omega) nw_gs, nw_scr h (by omega) (nw_f.rfl.si (by rfl))⟩
  rcases nw_two hnet p q with ⟨i, j, hi, hj, hne, rfl, rfl, e1, e2⟩ | ⟨e1, e2⟩
  · rcases nw_range (σ := σ) r (0 : Int32) (100000 : Int32) with ⟨r1, r2, r3, r4⟩ | ⟨r3, r4⟩
    · obtain ⟨l, rfl, -, hl⟩ := nw_rng (lo := 0) (hi := 100000) (by omega) (by omega) r1 r2
      have hf14 : nw_f (nw_r 14) σ (jv_si σ 14 2 (nI j)) := nw_f.rfl.si nw_r_t
      have hC1 := nw_keepC (by omega) hf14 hnet.2.1
      have hD1 := nw_keepD (by omega) hf14 hnet.2.2.1
      obtain ⟨τ, x, g1, g2, g3, g4⟩ := nw_measure hnet.1 (a := 16) (by omega) hC1 hD1 (show j < 10 by omega)
      have hfτ : nw_f nw_pSC σ τ := (nw_pSCr (by omega) hf14).trans (nw_pSCr (by omega) g2)
      have hcnt := nw_count hnet.1 (nw_keepC (by omega) g2 hC1) (nw_keepD (by omega) g2 hD1) (show j < 10 by omega) (by rw [g2.row (by decide), nw_gs]) g3 g4 9 12 i (fun w => w == i) ((1 : Int32) <<< (nI i &&& 31)) l 0 (by omega) (by omega) (nw_cv0 (by omega) (by omega) hne) (fun w hw => by rw [nw_sh (by omega) (by omega)]; rfl) (by simp; exact fun h => hne h.symm) (by omega) hl
      have hcl : f_L_countPaths σ (nI i) (nI j) (nI l) = some ((0 : Int32), jv_sl τ 61 0 (nI ((nw_ap N i j).countP (fun p => decide (nw_sl N p ≤ l)))).toInt64) := by
        unfold f_L_countPaths f_X7_countPaths f_X4_upTo
        rw [e1, nw_xeO, r3, nw_xeO, g1, nw_bd, show f_X4_countFrom 12 τ (nI i) ((1 : Int32) <<< (nI i &&& 31)) (nI l) (0 : Int32) = _ from hcnt]
        rfl
      have hf1 : nw_f nw_pSC σ (jv_sl τ 61 0 (nI ((nw_ap N i j).countP (fun p => decide (nw_sl N p ≤ l)))).toInt64) := hfτ.sl (by rfl)
      have hf2 := hf1.si (k := 35) (j := 0) (x := (0 : Int32)) (by rfl)
      obtain ⟨ρ, k1, k2, -⟩ := nw_ga hnet.1 (hf2.keepM hM nw_pSC_M) (fr := i) (to := j) (most := l) (cur := 0) (drawn := 0) (dr := false) (path := []) (best := none) (by omega) (by omega) hne hl (fun h => by cases h)
      have hrf : f_X8_countPaths (jv_sl τ 61 0 (nI ((nw_ap N i j).countP (fun p => decide (nw_sl N p ≤ l)))).toInt64) (nI i) (nI j) (nI l) = some (nI ((nw_ap N i j).countP (fun p => decide (nw_sl N p ≤ l))), ρ) := by
        unfold f_X8_countPaths
        rw [if_pos (e2 _ (hf1.keepM hM nw_pSC_M).1), if_pos (r4 _), nw_lt, show jv_b false = (0 : Int32) from rfl, nw_h0, nw_lt, if_pos rfl, show f_X8_goesAlong _ (nI i) (nI j) (nI l) (0 : Int32) = _ from k1]
        rfl
      rw [hcl, nw_bd, hrf, nw_bd]
      refine ⟨_, nw_finO (x := nI ((nw_ap N i j).countP (fun p => decide (nw_sl N p ≤ l)))) ?_ ?_ rfl, nw_scr h (by omega) (hf2.trans (nw_pSCG k2))⟩
      · show ρ.1 35 0 = _
        rw [(k2 35 0 rfl).1, nw_gs]; rfl
      · show ρ.2 61 0 = _
        rw [(k2 61 0 rfl).2, nw_g2, nw_hs]
    · refine herr ?_ ?_
      · unfold f_L_countPaths f_X7_countPaths
        rw [e1, nw_xeO, r3]
        rfl
      · unfold f_X8_countPaths
        rw [if_pos (e2 _ hM.1), if_neg (by rw [r4]; decide), nw_lt, show jv_b true = (1 : Int32) from rfl, nw_hk (by decide)]
        rfl
  · refine herr ?_ ?_
    · unfold f_L_countPaths f_X7_countPaths
      rw [e1]
      rfl
    · unfold f_X8_countPaths
      rw [if_neg (by rw [e2 _ hM.1]; decide), nw_lt, show jv_b true = (1 : Int32) from rfl, nw_hk (by decide)]
      rfl
theorem nw_q21 (h : nw_all N c σ) (p q : Int32) (ap : Bool) : ∃ τ, jv_bd (f_L_disjointPaths σ p q (jv_b ap)) (fun q6 => jv_bd (f_X8_disjointPaths q6.2 p q (jv_b ap)) (fun q12 => nw_fin q6.1 q12)) = some τ ∧ nw_I (c + 1) τ := by
  obtain ⟨hnet, -, -⟩ := id h
  have hn := hnet.1.n
  have hM := hnet.2.2.2.1
  rcases nw_two hnet p q with ⟨i, j, hi, hj, hne, rfl, rfl, e1, e2⟩ | ⟨e1, e2⟩
  · obtain ⟨τ, T, g1, g2, g3, g4, g5⟩ := nw_pathTot (ap := ap) hnet.1 hi hj hnet.2.1 hnet.2.2.1 hnet.2.2.2.2
    have hcl : f_L_disjointPaths σ (nI i) (nI j) (jv_b ap) = some ((0 : Int32), jv_sl τ 61 0 (nI T).toInt64) := by
      unfold f_L_disjointPaths f_X7_disjointPaths
      rw [e1, nw_xeO, g1]
      rfl
    have hf1 : nw_f nw_pSC σ (jv_sl τ 61 0 (nI T).toInt64) := (nw_pSCT g2).sl (by rfl)
    have hf2 := hf1.si (k := 35) (j := 0) (x := (0 : Int32)) (by rfl)
    obtain ⟨ρ, T', k1, k2, k3, k4, k5⟩ := nw_many (ap := ap) hnet.1 hi hj hne (hf2.keepM hM nw_pSC_M)
    have hT := nw_totEq hnet.1 hi hj hne g3 k3 g4 g5 k4 k5
    have hrf : f_X8_disjointPaths (jv_sl τ 61 0 (nI T).toInt64) (nI i) (nI j) (jv_b ap) = some (nI T, ρ) := by
      unfold f_X8_disjointPaths
      rw [if_pos (e2 _ (hf1.keepM hM nw_pSC_M).1), nw_lt, show jv_b false = (0 : Int32) from rfl, nw_h0, nw_lt, if_pos rfl, k1, hT]
      rfl
    rw [hcl, nw_bd, hrf, nw_bd]
    refine ⟨_, nw_finO (x := nI T) ?_ ?_ rfl, nw_scr h (by omega) (hf2.trans (nw_pSCS k2))⟩
    · show ρ.1 35 0 = _
      rw [(k2 35 0 rfl).1, nw_gs]; rfl
    · show ρ.2 61 0 = _
      rw [(k2 61 0 rfl).2, nw_g2, nw_hs]
  · have hcl : f_L_disjointPaths σ p q (jv_b ap) = some ((1 : Int32), σ) := by
      unfold f_L_disjointPaths f_X7_disjointPaths
      rw [e1]
      rfl
    have hrf : f_X8_disjointPaths σ p q (jv_b ap) = some (0, jv_si σ 35 0 (1 : Int32)) := by
      unfold f_X8_disjointPaths
      rw [if_neg (by rw [e2 _ hM.1]; decide), nw_lt, show jv_b true = (1 : Int32) from rfl, nw_hk (by decide)]
      rfl
    rw [hcl, nw_bd, hrf, nw_bd]
    exact ⟨_, nw_finE (k := 1) (by omega) (by omega) nw_gs, nw_scr h (by omega) (nw_f.rfl.si (by rfl))⟩
theorem nw_q22 (h : nw_all N c σ) (p q r : Int32) (ap : Bool) : ∃ τ, jv_bd (f_L_disjointLength σ p q r (jv_b ap)) (fun q7 => jv_bd (f_X8_disjointLength q7.2 p q r (jv_b ap)) (fun q14 => nw_fin q7.1 q14)) = some τ ∧ nw_I (c + 1) τ := by
  obtain ⟨hnet, -, -⟩ := id h
  have hn := hnet.1.n
  have hM := hnet.2.2.2.1
  have herr : f_L_disjointLength σ p q r (jv_b ap) = some ((1 : Int32), σ) → f_X8_disjointLength σ p q r (jv_b ap) = some (0, jv_si σ 35 0 (1 : Int32)) → ∃ τ, jv_bd (f_L_disjointLength σ p q r (jv_b ap)) (fun q7 => jv_bd (f_X8_disjointLength q7.2 p q r (jv_b ap)) (fun q14 => nw_fin q7.1 q14)) = some τ ∧ nw_I (c + 1) τ := fun h1 h2 => by
    rw [h1, nw_bd, h2, nw_bd]
    exact ⟨_, nw_finE (k := 1) (by omega) (by omega) nw_gs, nw_scr h (by omega) (nw_f.rfl.si (by rfl))⟩
  rcases nw_two hnet p q with ⟨i, j, hi, hj, hne, rfl, rfl, e1, e2⟩ | ⟨e1, e2⟩
  · rcases nw_range (σ := σ) r (1 : Int32) (4 : Int32) with ⟨r1, r2, r3, r4⟩ | ⟨r3, r4⟩
    · obtain ⟨l, rfl, hl1, hl⟩ := nw_rng (lo := 1) (hi := 4) (by omega) (by omega) r1 r2
      obtain ⟨τ, L, g1, g2, g3, g4⟩ := nw_leastL (ap := ap) hnet.1 hi hj hl hnet.2.1 hnet.2.2.1 hnet.2.2.2.2
      by_cases cL : L < 1000000000
      · have hcl : f_L_disjointLength σ (nI i) (nI j) (nI l) (jv_b ap) = some ((0 : Int32), jv_sl τ 61 0 (nI L).toInt64) := by
          unfold f_L_disjointLength f_X7_disjointLength
          rw [e1, nw_xeO, r3, nw_xeO, g1, nw_bd]
          unfold f_X7_requireWay
          rw [if_pos (nw_ltF cL)]
          rfl
        have hf1 : nw_f nw_pSC σ (jv_sl τ 61 0 (nI L).toInt64) := (nw_pSCT g2).sl (by rfl)
        have hM1 := hf1.keepM hM nw_pSC_M
        obtain ⟨ρ, L', k1, k2, k3, k4⟩ := nw_together (ap := ap) hnet.1 hi hj hne hl hM1
        have hL : L' = L := by rcases nw_lenEq hnet.1 hi hj hne hl g4 k4 with h | h <;> omega
        subst hL
        have hrf : f_X8_disjointLength (jv_sl τ 61 0 (nI L').toInt64) (nI i) (nI j) (nI l) (jv_b ap) = some (nI L', jv_si ρ 35 0 (0 : Int32)) := by
          unfold f_X8_disjointLength
          rw [if_pos (e2 _ hM1.1), if_pos (r4 _), nw_lt, if_pos rfl, k1, nw_bd, nw_bd, if_pos rfl, if_neg (nw_neF cL), nw_lt, nw_h0]
          rfl
        rw [hcl, nw_bd, hrf, nw_bd]
        refine ⟨_, nw_finO (x := nI L') nw_gs ?_ rfl, nw_scr h (by omega) ((hf1.trans (nw_pSCS k2)).si (by rfl))⟩
        rw [nw_g2, (k2 61 0 rfl).2, nw_hs]
      · have hcl : f_L_disjointLength σ (nI i) (nI j) (nI l) (jv_b ap) = some ((2 : Int32), τ) := by
          unfold f_L_disjointLength f_X7_disjointLength
          rw [e1, nw_xeO, r3, nw_xeO, g1, nw_bd]
          unfold f_X7_requireWay
          rw [if_neg (nw_nltF cL (by omega))]
          rfl
        have hf1 := nw_pSCT g2
        have hM1 := hf1.keepM hM nw_pSC_M
        obtain ⟨ρ, L', k1, k2, k3, k4⟩ := nw_together (ap := ap) hnet.1 hi hj hne hl hM1
        have hL : L' = 1000000000 := by rcases nw_lenEq hnet.1 hi hj hne hl g4 k4 with h | h <;> omega
        have hrf : f_X8_disjointLength τ (nI i) (nI j) (nI l) (jv_b ap) = some (0, jv_si ρ 35 0 (2 : Int32)) := by
          unfold f_X8_disjointLength
          rw [if_pos (e2 _ hM1.1), if_pos (r4 _), nw_lt, if_pos rfl, k1, nw_bd, nw_bd, if_pos rfl, if_pos (show nI L' = (1000000000 : Int32) by rw [hL]; rfl), nw_lt, nw_hk (by decide)]
          rfl
        rw [hcl, nw_bd, hrf, nw_bd]
        exact ⟨_, nw_finE (k := 2) (by omega) (by omega) nw_gs, nw_scr h (by omega) ((hf1.trans (nw_pSCS k2)).si (by rfl))⟩
    · refine herr ?_ ?_
      · unfold f_L_disjointLength f_X7_disjointLength
        rw [e1, nw_xeO, r3]
        rfl
      · unfold f_X8_disjointLength
        rw [if_pos (e2 _ hM.1), if_neg (by rw [r4]; decide), nw_lt, if_neg (by decide), nw_bd, if_neg (by decide), nw_lt, nw_hk (by decide)]
        rfl
  · refine herr ?_ ?_
    · unfold f_L_disjointLength f_X7_disjointLength
      rw [e1]
      rfl
    · unfold f_X8_disjointLength
      rw [if_neg (by rw [e2 _ hM.1]; decide), nw_lt, if_neg (by decide), nw_bd, if_neg (by decide), nw_lt, nw_hk (by decide)]
      rfl
end NWQA
