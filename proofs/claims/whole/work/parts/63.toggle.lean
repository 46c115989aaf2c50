/-! ===== what may be closed, and what may not follow, is turned ===== -/
noncomputable def nw_fib (k : Int32) (q : Bool × jv_S) : Option jv_S := if (f_X8_thrown q.2) = k then (if k = 0 then (if jv_ck (0 : Int32) 1 = true then (jv_lt (if q.1 = true then ((1 : Int64)) else ((0 : Int64))) (fun q9 => if (lg_cmp (q.2.2 61 (0 : Int32).toNatClampNeg) q9) = 0 then (some q.2) else (none))) else none) else (some q.2)) else (none)
theorem nw_fibE {q : Bool × jv_S} {k : Nat} (hk : k < 2 ^ 31) (h0 : 0 < k) (h : q.2.1 35 0 = nI k) : nw_fib (nI k) q = some q.2 := by
  unfold nw_fib f_X8_thrown
  rw [if_pos h, if_neg (nI_ne0 h0 hk)]
theorem nw_fibO {q : Bool × jv_S} {b : Bool} (h : q.2.1 35 0 = nI 0) (h1 : q.2.2 61 0 = jv_bl b) (h2 : q.1 = b) : nw_fib (0 : Int32) q = some q.2 := by
  unfold nw_fib f_X8_thrown
  rw [if_pos (show q.2.1 35 0 = (0 : Int32) from h), if_pos rfl, if_pos (by decide), nw_lt, if_pos]
  show lg_cmp (q.2.2 61 0) (jv_bl q.1) = 0
  rw [h1, h2, nw_cmpr]
theorem nw_nb {b : Bool} : (if jv_b b = (0 : Int32) then true else false) = !b := by cases b <;> rfl
theorem nw_ob {b : Bool} : jv_ob (jv_b b) = some b := by cases b <;> rfl
theorem nw_tgl {S : jv_S} {r i n : Nat} {b : Bool} (hx : S.1 r i = jv_b b) (hi : i < n) (hn : n < 2 ^ 31) (hr : r ≠ 35) : (if jv_ck (nI i) n = true then (jv_lt (if (S.1 r (nI i).toNatClampNeg) = 0 then (true) else (false)) (fun q7 => if jv_ck (nI i) n = true then (jv_lt (f_X8_isChanged (jv_si S r (nI i).toNatClampNeg (jv_b q7))) (fun q9 => if jv_ck (nI i) n = true then (jv_bd (jv_ob (q9.1 r (nI i).toNatClampNeg)) (fun q11 => some (q11, q9))) else none)) else none)) else none) = some (!b, jv_si (jv_si (jv_si S r i (jv_b (!b))) 35 9 (0 : Int32)) 35 23 (0 : Int32)) := by
  rw [nw_ck hi hn, nI_clamp (by omega), hx, if_pos rfl, nw_nb, nw_lt, if_pos rfl, nw_lt, if_pos rfl]
  unfold f_X8_isChanged
  rw [nw_gn hr, nw_gn hr, nw_gs, nw_ob, nw_bd]
section NWTG
variable {N : nw_N} {c : Nat} {σ : jv_S}
theorem nw_fib1 (h : nw_all N c σ) {A : Option (Int32 × jv_S)} {B : jv_S → Option (Bool × jv_S)} {k : Nat} {z : Bool} (hk : k = 1 ∨ k = 2) (h1 : A = some (nI k, σ)) (h2 : B σ = some (z, jv_si σ 35 0 (nI k))) : ∃ τ, jv_bd A (fun q1 => jv_bd (B q1.2) (fun q2 => nw_fib q1.1 q2)) = some τ ∧ nw_I (c + 1) τ := by
  rw [h1, nw_bd, h2, nw_bd]
  exact ⟨_, nw_fibE (k := k) (by omega) (by omega) nw_gs, nw_scr h (by omega) (nw_f.rfl.si (by rfl))⟩
def nw_pTG (r : Nat) (k j : Nat) : Bool := (k == 0 && (j == 7 || j == 8)) || (k == 1 && (j == 8 || j == 9)) || (k == 6 || k == 7 || k == 61) || (k == 35 && (j == 0 || j == 9 || j == 23)) || k == r
theorem nw_q3 (h : nw_all N c σ) (p : Int32) : ∃ τ, jv_bd (f_L_toggleEdge σ p) (fun q2 => jv_bd (f_X8_toggleEdge q2.2 p) (fun q4 => nw_fib q2.1 q4)) = some τ ∧ nw_I (c + 1) τ := by
  obtain ⟨⟨hW, hC, hD, hM, h27⟩, -, -⟩ := id h
  have hn := hW.n
  rcases nw_edge h.1 p with ⟨i, hi, rfl, e1, e2⟩ | ⟨e1, e2⟩
  · let N' : nw_N := (N.1, N.2.1, (fun a => if a = i then !nw_ce N a else nw_ce N a), N.2.2.2)
    have ec : ∀ e, nw_ce N' e = if e = i then !nw_ce N e else nw_ce N e := fun _ => rfl
    have hW' : nw_W N' := ⟨hW.1, hW.2.1, hW.2.2.1, hW.2.2.2.1, fun e he => by
      have he' : nw_m N ≤ e := he
      rw [ec, if_neg (by omega)]; exact hW.2.2.2.2 e he'⟩
    have hC' : nw_C0 N' (jv_si (jv_si (jv_si σ 0 7 (0 : Int32)) 0 8 (0 : Int32)) 1 9 ((jv_si (jv_si σ 0 7 (0 : Int32)) 0 8 (0 : Int32)).1 1 9 ^^^ ((1 : Int32) <<< (nI i &&& 31)))) := by
      refine ⟨?_, ?_, fun e he => ⟨?_, ?_, ?_⟩, fun e he => ?_, fun v hv => ?_, fun e he f hf => ?_⟩
      · rw [nw_gj (by decide), nw_gn (by decide), nw_gn (by decide)]; exact hC.1
      · rw [nw_gj (by decide), nw_gn (by decide), nw_gn (by decide)]; exact hC.2.1
      · rw [nw_gn (by decide), nw_gn (by decide), nw_gn (by decide)]; exact (hC.2.2.1 e he).1
      · rw [nw_gn (by decide), nw_gn (by decide), nw_gn (by decide)]; exact (hC.2.2.1 e he).2.1
      · rw [nw_gn (by decide), nw_gn (by decide), nw_gn (by decide)]; exact (hC.2.2.1 e he).2.2
      · rw [nw_gs, nw_gn (by decide), nw_gn (by decide), nw_xor1 (by omega) (by omega), hC.2.2.2.1 e he, ec]
        by_cases c1 : e = i
        · simp [c1]
        · simp [c1]
      · rw [nw_gj (by decide), nw_gn (by decide), nw_gn (by decide)]; exact hC.2.2.2.2.1 v hv
      · rw [nw_gn (by decide), nw_gn (by decide), nw_gn (by decide)]; exact hC.2.2.2.2.2 e he f hf
    obtain ⟨τ, g1, g2, g3⟩ := nw_list hW' hC'
    have hCτ := nw_p67 g2 hC'
    have hbt : f_X7_hasBit τ (τ.1 1 9) (nI i) = !nw_ce N i := by
      rw [nw_hb (by omega), hCτ.2.2.2.1 i (by omega), ec, if_pos rfl]
    have hcl : f_L_toggleEdge σ (nI i) = some ((0 : Int32), jv_sl τ 61 0 (jv_bl (!nw_ce N i))) := by
      unfold f_L_toggleEdge f_X7_toggleEdge f_X7_requireEdge f_X3_switchEdge f_X7_endDraws
      rw [if_pos e1, nw_xeO, nw_lt, g1]
      show some ((0 : Int32), jv_sl τ 61 0 (jv_bl (f_X7_hasBit τ (τ.1 1 9) (nI i)))) = _
      rw [hbt]
    have hτ : ∀ k a, k ≠ 0 → k ≠ 1 → k ≠ 6 → k ≠ 7 → τ.1 k a = σ.1 k a := fun k a h0 h1 h6 h7 => by
      rw [(g2 k a (by simp [h6, h7])).1, nw_gn h1, nw_gn h0, nw_gn h0]
    have hrf : f_X8_toggleEdge (jv_sl τ 61 0 (jv_bl (!nw_ce N i))) (nI i) = some (!nw_ce N i, jv_si (jv_si (jv_si (jv_si (jv_sl τ 61 0 (jv_bl (!nw_ce N i))) 35 0 (0 : Int32)) 39 i (jv_b (!nw_ce N i))) 35 9 (0 : Int32)) 35 23 (0 : Int32)) := by
      unfold f_X8_toggleEdge
      rw [if_pos (e2 _ (by rw [nw_h1, hτ _ _ (by decide) (by decide) (by decide) (by decide)]; exact hM.2.1)), nw_lt, show jv_b false = (0 : Int32) from rfl, nw_h0, nw_lt, if_pos rfl]
      exact nw_tgl (S := jv_si (jv_sl τ 61 0 (jv_bl (!nw_ce N i))) 35 0 (0 : Int32)) (by rw [nw_gn (by decide), nw_h1, hτ _ _ (by decide) (by decide) (by decide) (by decide)]; exact (hM.2.2.1 i hi).2.2.2) (show i < 24 by omega) (by omega) (by decide)
    rw [hcl, nw_bd, hrf, nw_bd]
    have hk : ∀ k a, k ≠ 0 → k ≠ 1 → k ≠ 6 → k ≠ 7 → k ≠ 35 → k ≠ 39 → (jv_si (jv_si (jv_si (jv_si (jv_sl τ 61 0 (jv_bl (!nw_ce N i))) 35 0 (0 : Int32)) 39 i (jv_b (!nw_ce N i))) 35 9 (0 : Int32)) 35 23 (0 : Int32)).1 k a = σ.1 k a := fun k a h1 h2 h3 h4 h5 h6 => by
      rw [nw_gn h5, nw_gn h5, nw_gn h6, nw_gn h5, nw_h1, hτ k a h1 h2 h3 h4]
    have hkτ : ∀ k, k ≠ 35 → k ≠ 39 → (jv_si (jv_si (jv_si (jv_si (jv_sl τ 61 0 (jv_bl (!nw_ce N i))) 35 0 (0 : Int32)) 39 i (jv_b (!nw_ce N i))) 35 9 (0 : Int32)) 35 23 (0 : Int32)).1 k = τ.1 k := fun k h5 h6 => by
      rw [nw_gn h5, nw_gn h5, nw_gn h6, nw_gn h5, nw_h1]
    have hτ0 : ∀ a, τ.1 0 a = (jv_si (jv_si σ 0 7 (0 : Int32)) 0 8 (0 : Int32)).1 0 a := fun a => by rw [(g2 0 a (by simp)).1, nw_gn (by decide)]
    refine ⟨_, nw_fibO (b := !nw_ce N i) (by simp [nw_g]; rfl) (by rw [nw_g2, nw_g2, nw_g2, nw_g2, nw_hs]) rfl, nw_chg (N' := N') hW' (hCτ.keep (fun k j hk' => ?_)) (g3.keep (hkτ 6 (by decide) (by decide)) (hkτ 7 (by decide) (by decide))) ⟨?_, ?_, fun e he => ⟨?_, ?_, ?_, ?_⟩, fun v hv => ?_, fun e he f hf => ?_⟩ (fun v hv => ?_) ?_ ?_ ?_ ?_⟩
    · simp only [nw_pC, Bool.or_eq_true, Bool.and_eq_true, beq_iff_eq] at hk'
      rw [hkτ k (by omega) (by omega)]
    · rw [nw_gj (by decide), nw_gj (by decide), nw_gn (by decide), nw_gj (by decide), nw_h1, hτ _ _ (by decide) (by decide) (by decide) (by decide)]; exact hM.1
    · rw [nw_gj (by decide), nw_gj (by decide), nw_gn (by decide), nw_gj (by decide), nw_h1, hτ _ _ (by decide) (by decide) (by decide) (by decide)]; exact hM.2.1
    · rw [hk 36 e (by decide) (by decide) (by decide) (by decide) (by decide) (by decide)]; exact (hM.2.2.1 e he).1
    · rw [hk 37 e (by decide) (by decide) (by decide) (by decide) (by decide) (by decide)]; exact (hM.2.2.1 e he).2.1
    · rw [hk 38 e (by decide) (by decide) (by decide) (by decide) (by decide) (by decide)]; exact (hM.2.2.1 e he).2.2.1
    · rw [nw_gn (by decide), nw_gn (by decide), ec]
      by_cases c1 : e = i
      · rw [c1, nw_gs, if_pos rfl]
      · rw [nw_gj c1, nw_gn (by decide), nw_h1, hτ _ _ (by decide) (by decide) (by decide) (by decide), if_neg c1]; exact (hM.2.2.1 e he).2.2.2
    · rw [hk 40 v (by decide) (by decide) (by decide) (by decide) (by decide) (by decide)]; exact hM.2.2.2.1 v hv
    · rw [hk 41 _ (by decide) (by decide) (by decide) (by decide) (by decide) (by decide)]; exact hM.2.2.2.2 e he f hf
    · rw [hk 27 _ (by decide) (by decide) (by decide) (by decide) (by decide) (by decide)]; exact h27 v hv
    · rw [hkτ 0 (by decide) (by decide), hτ0]; simp [nw_g]
    · rw [hkτ 0 (by decide) (by decide), hτ0]; simp [nw_g]
    · simp [nw_g]
    · simp [nw_g]
  · refine nw_fib1 h (k := 1) (z := false) (B := fun s => f_X8_toggleEdge s p) (Or.inl rfl) ?_ ?_
    · unfold f_L_toggleEdge f_X7_toggleEdge f_X7_requireEdge
      rw [if_neg (by rw [e1]; decide)]
      rfl
    · show f_X8_toggleEdge σ p = _
      unfold f_X8_toggleEdge
      rw [if_neg (by rw [e2 _ hM.2.1]; decide), nw_lt, show jv_b true = (1 : Int32) from rfl, nw_hk (show (1 : Int32) ≠ 0 by decide)]
      rfl
theorem nw_q4 (h : nw_all N c σ) (p : Int32) : ∃ τ, jv_bd (f_L_toggleNode σ p) (fun q2 => jv_bd (f_X8_toggleNode q2.2 p) (fun q4 => nw_fib q2.1 q4)) = some τ ∧ nw_I (c + 1) τ := by
  obtain ⟨⟨hW, hC, hD, hM, h27⟩, -, -⟩ := id h
  have hn := hW.n
  rcases nw_node h.1 p with ⟨i, hi, rfl, e1, e2⟩ | ⟨e1, e2⟩
  · let N' : nw_N := (N.1, N.2.1, N.2.2.1, (fun a => if a = i then !nw_cn N a else nw_cn N a), N.2.2.2.2)
    have ec : ∀ e, nw_cn N' e = if e = i then !nw_cn N e else nw_cn N e := fun _ => rfl
    have hW' : nw_W N' := hW
    have hC' : nw_C0 N' (jv_si (jv_si (jv_si σ 0 7 (0 : Int32)) 0 8 (0 : Int32)) 1 8 ((jv_si (jv_si σ 0 7 (0 : Int32)) 0 8 (0 : Int32)).1 1 8 ^^^ ((1 : Int32) <<< (nI i &&& 31)))) := by
      refine ⟨?_, ?_, fun e he => ⟨?_, ?_, ?_⟩, fun e he => ?_, fun v hv => ?_, fun e he f hf => ?_⟩
      · rw [nw_gj (by decide), nw_gn (by decide), nw_gn (by decide)]; exact hC.1
      · rw [nw_gj (by decide), nw_gn (by decide), nw_gn (by decide)]; exact hC.2.1
      · rw [nw_gn (by decide), nw_gn (by decide), nw_gn (by decide)]; exact (hC.2.2.1 e he).1
      · rw [nw_gn (by decide), nw_gn (by decide), nw_gn (by decide)]; exact (hC.2.2.1 e he).2.1
      · rw [nw_gn (by decide), nw_gn (by decide), nw_gn (by decide)]; exact (hC.2.2.1 e he).2.2
      · rw [nw_gj (by decide), nw_gn (by decide), nw_gn (by decide)]; exact hC.2.2.2.1 e he
      · rw [nw_gs, nw_gn (by decide), nw_gn (by decide), nw_xor1 (by omega) (by omega), hC.2.2.2.2.1 v hv, ec]
        by_cases c1 : v = i
        · simp [c1]
        · simp [c1]
      · rw [nw_gn (by decide), nw_gn (by decide), nw_gn (by decide)]; exact hC.2.2.2.2.2 e he f hf
    obtain ⟨τ, g1, g2, g3⟩ := nw_list hW' hC'
    have hCτ := nw_p67 g2 hC'
    have hbt : f_X7_hasBit τ (τ.1 1 8) (nI i) = !nw_cn N i := by
      rw [nw_hb (by omega), hCτ.2.2.2.2.1 i (by omega), ec, if_pos rfl]
    have hcl : f_L_toggleNode σ (nI i) = some ((0 : Int32), jv_sl τ 61 0 (jv_bl (!nw_cn N i))) := by
      unfold f_L_toggleNode f_X7_toggleNode f_X7_requireNodes f_X3_switchNode f_X7_endDraws
      rw [if_pos e1, if_pos e1, nw_xeO, nw_lt, g1]
      show some ((0 : Int32), jv_sl τ 61 0 (jv_bl (f_X7_hasBit τ (τ.1 1 8) (nI i)))) = _
      rw [hbt]
    have hτ : ∀ k a, k ≠ 0 → k ≠ 1 → k ≠ 6 → k ≠ 7 → τ.1 k a = σ.1 k a := fun k a h0 h1 h6 h7 => by
      rw [(g2 k a (by simp [h6, h7])).1, nw_gn h1, nw_gn h0, nw_gn h0]
    have hrf : f_X8_toggleNode (jv_sl τ 61 0 (jv_bl (!nw_cn N i))) (nI i) = some (!nw_cn N i, jv_si (jv_si (jv_si (jv_si (jv_sl τ 61 0 (jv_bl (!nw_cn N i))) 35 0 (0 : Int32)) 40 i (jv_b (!nw_cn N i))) 35 9 (0 : Int32)) 35 23 (0 : Int32)) := by
      unfold f_X8_toggleNode
      rw [if_pos (e2 _ (by rw [nw_h1, hτ _ _ (by decide) (by decide) (by decide) (by decide)]; exact hM.1)), nw_lt, show jv_b false = (0 : Int32) from rfl, nw_h0, nw_lt, if_pos rfl]
      exact nw_tgl (S := jv_si (jv_sl τ 61 0 (jv_bl (!nw_cn N i))) 35 0 (0 : Int32)) (by rw [nw_gn (by decide), nw_h1, hτ _ _ (by decide) (by decide) (by decide) (by decide)]; exact hM.2.2.2.1 i (by omega)) (show i < 10 by omega) (by omega) (by decide)
    rw [hcl, nw_bd, hrf, nw_bd]
    have hk : ∀ k a, k ≠ 0 → k ≠ 1 → k ≠ 6 → k ≠ 7 → k ≠ 35 → k ≠ 40 → (jv_si (jv_si (jv_si (jv_si (jv_sl τ 61 0 (jv_bl (!nw_cn N i))) 35 0 (0 : Int32)) 40 i (jv_b (!nw_cn N i))) 35 9 (0 : Int32)) 35 23 (0 : Int32)).1 k a = σ.1 k a := fun k a h1 h2 h3 h4 h5 h6 => by
      rw [nw_gn h5, nw_gn h5, nw_gn h6, nw_gn h5, nw_h1, hτ k a h1 h2 h3 h4]
    have hkτ : ∀ k, k ≠ 35 → k ≠ 40 → (jv_si (jv_si (jv_si (jv_si (jv_sl τ 61 0 (jv_bl (!nw_cn N i))) 35 0 (0 : Int32)) 40 i (jv_b (!nw_cn N i))) 35 9 (0 : Int32)) 35 23 (0 : Int32)).1 k = τ.1 k := fun k h5 h6 => by
      rw [nw_gn h5, nw_gn h5, nw_gn h6, nw_gn h5, nw_h1]
    have hτ0 : ∀ a, τ.1 0 a = (jv_si (jv_si σ 0 7 (0 : Int32)) 0 8 (0 : Int32)).1 0 a := fun a => by rw [(g2 0 a (by simp)).1, nw_gn (by decide)]
    refine ⟨_, nw_fibO (b := !nw_cn N i) (by simp [nw_g]; rfl) (by rw [nw_g2, nw_g2, nw_g2, nw_g2, nw_hs]) rfl, nw_chg (N' := N') hW' (hCτ.keep (fun k j hk' => ?_)) (g3.keep (hkτ 6 (by decide) (by decide)) (hkτ 7 (by decide) (by decide))) ⟨?_, ?_, fun e he => ⟨?_, ?_, ?_, ?_⟩, fun v hv => ?_, fun e he f hf => ?_⟩ (fun v hv => ?_) ?_ ?_ ?_ ?_⟩
    · simp only [nw_pC, Bool.or_eq_true, Bool.and_eq_true, beq_iff_eq] at hk'
      rw [hkτ k (by omega) (by omega)]
    · rw [nw_gj (by decide), nw_gj (by decide), nw_gn (by decide), nw_gj (by decide), nw_h1, hτ _ _ (by decide) (by decide) (by decide) (by decide)]; exact hM.1
    · rw [nw_gj (by decide), nw_gj (by decide), nw_gn (by decide), nw_gj (by decide), nw_h1, hτ _ _ (by decide) (by decide) (by decide) (by decide)]; exact hM.2.1
    · rw [hk 36 e (by decide) (by decide) (by decide) (by decide) (by decide) (by decide)]; exact (hM.2.2.1 e he).1
    · rw [hk 37 e (by decide) (by decide) (by decide) (by decide) (by decide) (by decide)]; exact (hM.2.2.1 e he).2.1
    · rw [hk 38 e (by decide) (by decide) (by decide) (by decide) (by decide) (by decide)]; exact (hM.2.2.1 e he).2.2.1
    · rw [hk 39 e (by decide) (by decide) (by decide) (by decide) (by decide) (by decide)]; exact (hM.2.2.1 e he).2.2.2
    · rw [nw_gn (by decide), nw_gn (by decide), ec]
      by_cases c1 : v = i
      · rw [c1, nw_gs, if_pos rfl]
      · rw [nw_gj c1, nw_gn (by decide), nw_h1, hτ _ _ (by decide) (by decide) (by decide) (by decide), if_neg c1]; exact hM.2.2.2.1 v hv
    · rw [hk 41 _ (by decide) (by decide) (by decide) (by decide) (by decide) (by decide)]; exact hM.2.2.2.2 e he f hf
    · rw [hk 27 _ (by decide) (by decide) (by decide) (by decide) (by decide) (by decide)]; exact h27 v hv
    · rw [hkτ 0 (by decide) (by decide), hτ0]; simp [nw_g]
    · rw [hkτ 0 (by decide) (by decide), hτ0]; simp [nw_g]
    · simp [nw_g]
    · simp [nw_g]
  · refine nw_fib1 h (k := 1) (z := false) (B := fun s => f_X8_toggleNode s p) (Or.inl rfl) ?_ ?_
    · unfold f_L_toggleNode f_X7_toggleNode f_X7_requireNodes
      rw [if_neg (by rw [e1]; decide)]
      rfl
    · show f_X8_toggleNode σ p = _
      unfold f_X8_toggleNode
      rw [if_neg (by rw [e2 _ hM.1]; decide), nw_lt, show jv_b true = (1 : Int32) from rfl, nw_hk (show (1 : Int32) ≠ 0 by decide)]
      rfl
/-! a turn: the draws go on -/
def nw_N5 (N : nw_N) (g : Nat → Nat → Bool) : nw_N := (N.1, N.2.1, N.2.2.1, N.2.2.2.1, g)
theorem nw_5sl {g : Nat → Nat → Bool} (p : List Nat) : nw_sl (nw_N5 N g) p = nw_sl N p := by
  induction p with
  | nil => rfl
  | cons a p ih => rw [nw_sl, nw_sl, ih]; rfl
theorem nw_5pp {g : Nat → Nat → Bool} {to : Nat} : ∀ (f : Nat) (V : Nat → Bool) (v : Nat), nw_pp (nw_N5 N g) to f V v = nw_pp N to f V v := by
  intro f
  induction f with
  | zero => intro V v; rfl
  | succ f ih =>
    intro V v
    have h1 : nw_br (nw_N5 N g) to f V = nw_br N to f V := funext fun e => by
      unfold nw_br
      rw [ih]
      rfl
    rw [nw_pp_s, nw_pp_s, h1]
    rfl
theorem nw_5ww {g : Nat → Nat → Bool} {to : Nat} : ∀ (p : List Nat) (v r : Nat), nw_ww N to p v r → nw_ww (nw_N5 N g) to p v r := by
  intro p
  induction p with
  | nil => intro v r h; exact h
  | cons e p ih =>
    intro v r h
    obtain ⟨L, r', a1, a2, a3, a4, a5, a6, a7, a8⟩ := h
    exact ⟨L, r', a1, a2, a3, a4, a5, a6, a7, ih _ _ a8⟩
theorem nw_5IP {g : Nat → Nat → Bool} (h : nw_IP N c σ) : nw_IP (nw_N5 N g) c σ := by
  have hk : nw_key (nw_N5 N g) = nw_key N := funext fun p => by unfold nw_key; rw [nw_5sl]
  have ha : ∀ fr to, nw_ap (nw_N5 N g) fr to = nw_ap N fr to := fun fr to => by unfold nw_ap; rw [nw_5pp]
  rcases h with h | ⟨h1, h2, fr, to, cur, drawn, path, a1, a2, a3, a4, a5, a6, a7, a8, a9⟩
  · exact Or.inl h
  · refine Or.inr ⟨h1, h2, fr, to, cur, drawn, path, a1, a2, a3, a4, a5, ?_, a7, a8, ?_⟩
    · unfold nw_CP nw_rs at a6 ⊢
      rw [ha, hk]
      exact a6
    · unfold nw_RP at a9 ⊢
      rw [ha, hk, nw_5sl]
      exact a9
theorem nw_5IW {g : Nat → Nat → Bool} (h : nw_IW N σ) : nw_IW (nw_N5 N g) σ := by
  rcases h with h | ⟨h1, h2, fr, to, drawn, a1, a2, a3, a4, a5⟩
  · exact Or.inl h
  · obtain ⟨b1, b2, b3, b4, b5⟩ := a5
    refine Or.inr ⟨h1, h2, fr, to, drawn, a1, a2, a3, a4, b1, b2, b3, b4, fun d hd => ?_⟩
    obtain ⟨p, p1, p2⟩ := b5 d hd
    exact ⟨p, nw_5ww _ _ _ p1, p2⟩
def nw_pTT (k j : Nat) : Bool := k == 5 || k == 41 || k == 61 || (k == 35 && j == 0)
theorem nw_pTT_P (k j : Nat) (h : nw_dP k j = true) : nw_pTT k j = false := by
  simp only [nw_dP, nw_pTT, Bool.or_eq_true, Bool.and_eq_true, beq_iff_eq, Bool.or_eq_false_iff, Bool.and_eq_false_iff, beq_eq_false_iff_ne] at h ⊢
  omega
theorem nw_pTT_W (k j : Nat) (h : nw_dW k j = true) : nw_pTT k j = false := by
  simp only [nw_dW, nw_pTT, Bool.or_eq_true, Bool.and_eq_true, beq_iff_eq, Bool.or_eq_false_iff, Bool.and_eq_false_iff, beq_eq_false_iff_ne] at h ⊢
  omega
theorem nw_q5 (h : nw_all N c σ) (p q : Int32) : ∃ τ, jv_bd (f_L_toggleTurn σ p q) (fun q3 => jv_bd (f_X8_toggleTurn q3.2 p q) (fun q6 => nw_fib q3.1 q6)) = some τ ∧ nw_I (c + 1) τ := by
  obtain ⟨⟨hW, hC, hD, hM, h27⟩, -, -⟩ := id h
  have hn := hW.n
  have herr : f_L_toggleTurn σ p q = some ((1 : Int32), σ) → (if (f_X8_isEdge σ p) = true then (if (f_X8_isEdge σ q) = true then (if jv_ck q 24 = true then (if jv_ck p 24 = true then (if (σ.1 36 q.toNatClampNeg) = (σ.1 37 p.toNatClampNeg) then (some false) else (some true)) else none) else none) else (some true)) else (some true)) = some true → ∃ τ, jv_bd (f_L_toggleTurn σ p q) (fun q3 => jv_bd (f_X8_toggleTurn q3.2 p q) (fun q6 => nw_fib q3.1 q6)) = some τ ∧ nw_I (c + 1) τ := fun h1 h2 => nw_fib1 h (k := 1) (z := false) (B := fun s => f_X8_toggleTurn s p q) (Or.inl rfl) h1 (by
    show f_X8_toggleTurn σ p q = _
    unfold f_X8_toggleTurn
    rw [h2, nw_bd, show jv_b true = (1 : Int32) from rfl, nw_hk (show (1 : Int32) ≠ 0 by decide)]
    rfl)
  rcases nw_edge h.1 p with ⟨i, hi, rfl, e1, e2⟩ | ⟨e1, e2⟩
  · rcases nw_edge h.1 q with ⟨j, hj, rfl, e3, e4⟩ | ⟨e3, e4⟩
    · by_cases cm : nw_t N j = nw_e N i
      · let N' : nw_N := nw_N5 N (fun a b => if a = i ∧ b = j then !nw_fb N a b else nw_fb N a b)
        have ec : ∀ e f, nw_fb N' e f = if e = i ∧ f = j then !nw_fb N e f else nw_fb N e f := fun _ _ => rfl
        have hx : bt (σ.1 5 i ^^^ ((1 : Int32) <<< (nI j &&& 31))) j = !nw_fb N i j := by
          rw [nw_xor1 (by omega) (by omega), hC.2.2.2.2.2 i (by omega) j (by omega)]; simp
        have hcl : f_L_toggleTurn σ (nI i) (nI j) = some ((0 : Int32), jv_sl (jv_si σ 5 i (σ.1 5 i ^^^ ((1 : Int32) <<< (nI j &&& 31)))) 61 0 (jv_bl (!nw_fb N i j))) := by
          unfold f_L_toggleTurn f_X7_toggleTurn f_X7_requireEdge f_X3_switchTurn f_X3_isForbidden
          rw [if_pos e1, nw_xeO, if_pos e3, nw_xeO, nw_head hW hC hi, nw_tail hW hC hj, if_pos (by rw [cm]), nw_rd (n := 24) (by omega) (by omega), nw_wr (n := 24) (by omega) (by omega), nw_rd (n := 24) (by omega) (by omega), nw_gs, nw_hb (by omega), hx]
          rfl
        have hS : ∀ k a, k ≠ 5 → (jv_sl (jv_si σ 5 i (σ.1 5 i ^^^ ((1 : Int32) <<< (nI j &&& 31)))) 61 0 (jv_bl (!nw_fb N i j))).1 k a = σ.1 k a := fun k a h5 => by rw [nw_h1, nw_gn h5]
        have hrf : f_X8_toggleTurn (jv_sl (jv_si σ 5 i (σ.1 5 i ^^^ ((1 : Int32) <<< (nI j &&& 31)))) 61 0 (jv_bl (!nw_fb N i j))) (nI i) (nI j) = some (!nw_fb N i j, jv_si (jv_si (jv_sl (jv_si σ 5 i (σ.1 5 i ^^^ ((1 : Int32) <<< (nI j &&& 31)))) 61 0 (jv_bl (!nw_fb N i j))) 35 0 (0 : Int32)) 41 (24 * i + j) (jv_b (!nw_fb N i j))) := by
          unfold f_X8_toggleTurn
          rw [if_pos (e2 _ (by rw [hS _ _ (by decide)]; exact hM.2.1)), if_pos (e4 _ (by rw [hS _ _ (by decide)]; exact hM.2.1)), nw_ck (n := 24) (p := j) (by omega) (by omega), nw_ck (n := 24) (p := i) (by omega) (by omega), if_pos rfl, if_pos rfl, nI_clamp (by omega), nI_clamp (by omega), hS _ _ (by decide), hS _ _ (by decide), (hM.2.2.1 j hj).1, (hM.2.2.1 i hi).2.1, if_pos (by rw [cm]), nw_bd, show jv_b false = (0 : Int32) from rfl, nw_h0, nw_lt, if_pos rfl]
          rw [show (24 : Int32) = nI 24 from rfl, pk_mul, nI_add, nw_ck (n := 576) (by omega) (by omega), if_pos rfl, nI_clamp (by omega)]
          show jv_lt (if (jv_si (jv_sl (jv_si σ 5 i (σ.1 5 i ^^^ ((1 : Int32) <<< (nI j &&& 31)))) 61 0 (jv_bl (!nw_fb N i j))) 35 0 (0 : Int32)).1 41 (24 * i + j) = 0 then true else false) _ = _
          rw [nw_gn (by decide), hS _ _ (by decide), hM.2.2.2.2 i (by omega) j (by omega), nw_nb, nw_lt, if_pos rfl, if_pos rfl, nw_gs, nw_ob, nw_bd]
        rw [hcl, nw_bd, hrf, nw_bd]
        have hf : nw_f nw_pTT σ (jv_si (jv_si (jv_sl (jv_si σ 5 i (σ.1 5 i ^^^ ((1 : Int32) <<< (nI j &&& 31)))) 61 0 (jv_bl (!nw_fb N i j))) 35 0 (0 : Int32)) 41 (24 * i + j) (jv_b (!nw_fb N i j))) := (((nw_f.rfl.si (by rfl)).sl (by rfl)).si (by rfl)).si (by rfl)
        have hk : ∀ k a, k ≠ 5 → k ≠ 35 → k ≠ 41 → (jv_si (jv_si (jv_sl (jv_si σ 5 i (σ.1 5 i ^^^ ((1 : Int32) <<< (nI j &&& 31)))) 61 0 (jv_bl (!nw_fb N i j))) 35 0 (0 : Int32)) 41 (24 * i + j) (jv_b (!nw_fb N i j))).1 k a = σ.1 k a := fun k a h1 h2 h3 => by
          rw [nw_gn h3, nw_gn h2, hS k a h1]
        refine ⟨_, nw_fibO (b := !nw_fb N i j) (by rw [nw_gn (by decide), nw_gs]; rfl) (by rw [nw_g2, nw_g2, nw_hs]) rfl, N', ⟨hW, ⟨?_, ?_, fun e he => ⟨?_, ?_, ?_⟩, fun e he => ?_, fun v hv => ?_, fun e he f hf' => ?_⟩, ?_, ⟨?_, ?_, fun e he => ⟨?_, ?_, ?_, ?_⟩, fun v hv => ?_, fun e he f hf' => ?_⟩, fun v hv => ?_⟩, nw_5IP (h.2.1.keep (by omega) hf nw_pTT_P), nw_5IW (h.2.2.keep hf nw_pTT_W)⟩
        · rw [hk _ _ (by decide) (by decide) (by decide)]; exact hC.1
        · rw [hk _ _ (by decide) (by decide) (by decide)]; exact hC.2.1
        · rw [hk _ _ (by decide) (by decide) (by decide)]; exact (hC.2.2.1 e he).1
        · rw [hk _ _ (by decide) (by decide) (by decide)]; exact (hC.2.2.1 e he).2.1
        · rw [hk _ _ (by decide) (by decide) (by decide)]; exact (hC.2.2.1 e he).2.2
        · rw [hk _ _ (by decide) (by decide) (by decide)]; exact hC.2.2.2.1 e he
        · rw [hk _ _ (by decide) (by decide) (by decide)]; exact hC.2.2.2.2.1 v hv
        · rw [nw_gn (by decide), nw_gn (by decide), nw_h1, ec]
          by_cases c1 : e = i
          · rw [c1, nw_gs, nw_xor1 (by omega) (by omega), hC.2.2.2.2.2 i (by omega) f hf']
            by_cases c2 : f = j
            · simp [c2]
            · simp [c2]
          · rw [nw_gj c1, if_neg (fun h => c1 h.1)]; exact hC.2.2.2.2.2 e he f hf'
        · exact hD.keep (funext fun a => hk 6 a (by decide) (by decide) (by decide)) (funext fun a => hk 7 a (by decide) (by decide) (by decide))
        · rw [nw_gn (by decide), nw_gj (by decide), hS _ _ (by decide)]; exact hM.1
        · rw [nw_gn (by decide), nw_gj (by decide), hS _ _ (by decide)]; exact hM.2.1
        · rw [hk _ _ (by decide) (by decide) (by decide)]; exact (hM.2.2.1 e he).1
        · rw [hk _ _ (by decide) (by decide) (by decide)]; exact (hM.2.2.1 e he).2.1
        · rw [hk _ _ (by decide) (by decide) (by decide)]; exact (hM.2.2.1 e he).2.2.1
        · rw [hk _ _ (by decide) (by decide) (by decide)]; exact (hM.2.2.1 e he).2.2.2
        · rw [hk _ _ (by decide) (by decide) (by decide)]; exact hM.2.2.2.1 v hv
        · rw [ec]
          by_cases c1 : e = i ∧ f = j
          · rw [c1.1, c1.2, nw_gs, if_pos ⟨rfl, rfl⟩]
          · rw [nw_gj (by omega), nw_gn (by decide), hS _ _ (by decide), if_neg c1]; exact hM.2.2.2.2 e he f hf'
        · rw [hk _ _ (by decide) (by decide) (by decide)]; exact h27 v hv
      · have hb1 := hW.e hi
        have hb2 := hW.e hj
        refine herr ?_ ?_
        · unfold f_L_toggleTurn f_X7_toggleTurn f_X7_requireEdge
          rw [if_pos e1, nw_xeO, if_pos e3, nw_xeO, nw_head hW hC hi, nw_tail hW hC hj, if_neg (fun e => cm ((nI_eq (by omega) (by omega)).mp e).symm)]
          rfl
        · rw [if_pos (e2 _ hM.2.1), if_pos (e4 _ hM.2.1), nw_ck (n := 24) (p := j) (by omega) (by omega), nw_ck (n := 24) (p := i) (by omega) (by omega), if_pos rfl, if_pos rfl, nI_clamp (by omega), nI_clamp (by omega), (hM.2.2.1 j hj).1, (hM.2.2.1 i hi).2.1, if_neg (fun e => cm ((nI_eq (by omega) (by omega)).mp e))]
    · refine herr ?_ ?_
      · unfold f_L_toggleTurn f_X7_toggleTurn f_X7_requireEdge
        rw [if_pos e1, nw_xeO, if_neg (by rw [e3]; decide)]
        rfl
      · rw [if_pos (e2 _ hM.2.1), if_neg (by rw [e4 _ hM.2.1]; decide)]
  · refine herr ?_ ?_
    · unfold f_L_toggleTurn f_X7_toggleTurn f_X7_requireEdge
      rw [if_neg (by rw [e1]; decide)]
      rfl
    · rw [if_neg (by rw [e2 _ hM.2.1]; decide)]
end NWTG
