/-! ===== one call of the law's own, by its cell: the same for both objects ===== -/
noncomputable def nx_tail (σ : jv_S) (v : Int32) (b : Bool) (x6 x8 x14 x15 : Int32) : Option (Int32 × jv_S) := if (9 : Int32) ≤ x15 then (if x15 = (9 : Int32) then (jv_bd (f_L_low (v >>> ((9 : Int32) &&& 31)) (6 : Int32)) (fun q39 => jv_bd (if q39 = 0 then (jv_lt (if b = true then ((14 : Int32)) else ((9 : Int32))) (fun q43 => jv_bd (f_L_low (v >>> ((4 : Int32) &&& 31)) q43) (fun q44 => jv_lt (if b = true then ((0 : Int32)) else ((2 : Int32))) (fun q46 => some (q44 + q46))))) else (some (0 : Int32))) (fun q41 => jv_bd (f_L_starts σ (0 : Int32) q41 (0 : Int32)) (fun q47 => some (q47.1, q47.2))))) else (if (12 : Int32) ≤ x15 then (if (16 : Int32) ≤ x15 then (if (18 : Int32) ≤ x15 then (if (20 : Int32) ≤ x15 then (jv_lt (if (22 : Int32) ≤ x15 then ((4 : Int32)) else ((0 : Int32))) (fun q23 => jv_bd (f_L_draws σ q23 (0 : Int32)) (fun q24 => some ((q24.1 + (1 : Int32)), q24.2)))) else (jv_bd (f_L_starts σ (x15 - (17 : Int32)) x6 x8) (fun q25 => some (q25.1, q25.2)))) else (jv_bd (f_L_low (v >>> ((10 : Int32) &&& 31)) (24 : Int32)) (fun q26 => jv_bd (f_L_sets σ (3 : Int32) x14 q26) (fun q27 => some (q27.1, q27.2))))) else (jv_lt (if (14 : Int32) ≤ x15 then ((2 : Int32)) else ((1 : Int32))) (fun q29 => jv_lt (if (14 : Int32) ≤ x15 then (x6) else (x14)) (fun q31 => jv_bd (f_L_sets σ q29 q31 (0 : Int32)) (fun q32 => some (q32.1, q32.2)))))) else (jv_lt (if b = true then ((1100 : Int32)) else ((30 : Int32))) (fun q34 => jv_bd (f_L_low (v >>> ((9 : Int32) &&& 31)) q34) (fun q35 => jv_lt (if b = true then (false) else (true)) (fun q37 => jv_bd (f_L_sets σ (0 : Int32) x14 (q35 + (jv_b q37))) (fun q38 => some (q38.1, q38.2)))))))) else (jv_lt (if b = true then ((1100 : Int32)) else ((30 : Int32))) (fun q49 => jv_bd (f_L_low (v >>> ((9 : Int32) &&& 31)) q49) (fun q50 => jv_lt (if b = true then (false) else (true)) (fun q52 => jv_bd (f_L_add σ x6 x8 (q50 + (jv_b q52))) (fun q53 => some (q53.1, q53.2))))))
theorem nx_low {x : Int32} {k : Nat} (h0 : 0 < k) (hk : k < 2 ^ 31) : ∃ r, r < k ∧ f_L_low x (nI k) = some (nI r) := by
  refine ⟨x.toBitVec.toNat % 2 ^ 31 % k, Nat.mod_lt _ h0, ?_⟩
  unfold f_L_low
  rw [if_neg (nI_ne0 h0 hk), pk_and x (m := (2147483647 : Int32)) 31 (by decide), pk_rem (Nat.mod_lt _ (by decide)) h0 hk]
section NXACT
variable {p : nx_Pic} {σ0 : jv_S}
theorem nx_cp {p' : nx_Pic} {f : jv_S → Option (Int32 × jv_S)} {a : Int32} (h : nx_D p f a p') : nx_D p (fun σ => jv_bd (f σ) (fun q => some (q.1, q.2))) a p' := fun σ hσ => by
  obtain ⟨τ, h1, h2⟩ := h σ hσ
  exact ⟨τ, by show jv_bd (f σ) _ = _; rw [h1]; rfl, h2⟩
theorem nx_cp1 {p' : nx_Pic} {f : jv_S → Option (Int32 × jv_S)} {a : Int32} (h : nx_D p f a p') : nx_D p (fun σ => jv_bd (f σ) (fun q => some ((q.1 + (1 : Int32)), q.2))) (a + (1 : Int32)) p' := fun σ hσ => by
  obtain ⟨τ, h1, h2⟩ := h σ hσ
  exact ⟨τ, by show jv_bd (f σ) _ = _; rw [h1]; rfl, h2⟩
theorem nx_eq {p' : nx_Pic} {f g : jv_S → Option (Int32 × jv_S)} {a : Int32} (h : nx_D p g a p') (he : ∀ σ, nx_H p σ → f σ = g σ) : nx_D p f a p' := fun σ hσ => by
  rw [he σ hσ]; exact h σ hσ
/-- what throws changes nothing -/
def nx_Z (p : nx_Pic) (f : jv_S → Option (Int32 × jv_S)) : Prop := ∃ a p', (a < 0 → p' = p) ∧ nx_D p f a p'
theorem nx_Z.eq {f g : jv_S → Option (Int32 × jv_S)} (h : nx_Z p g) (he : ∀ σ, nx_H p σ → f σ = g σ) : nx_Z p f := by
  obtain ⟨a, p', h1, h2⟩ := h
  exact ⟨a, p', h1, nx_eq h2 he⟩
theorem nx_Z.cp {f : jv_S → Option (Int32 × jv_S)} (h : nx_Z p f) : nx_Z p (fun σ => jv_bd (f σ) (fun q => some (q.1, q.2))) := by
  obtain ⟨a, p', h1, h2⟩ := h
  exact ⟨a, p', h1, nx_cp h2⟩
theorem nx_jb (b : Bool) : ¬ jv_b b < 0 := by cases b <;> decide
theorem nx_Zadd (h0 : nx_H p σ0) (x y z : Int32) : nx_Z p (fun σ => f_L_add σ x y z) := by
  obtain ⟨N, P, K⟩ := p
  obtain ⟨a, p', h1, h2⟩ := nx_S5 x y z h0
  refine ⟨a, p', fun ha => ?_, h2⟩
  rcases h1 with ⟨i, j, l, -, -, -, -, -, -, -, -, h9, h10, -⟩ | ⟨-, -, h11⟩
  · rw [h10] at ha; exact absurd ha (nI_pos (by omega))
  · exact h11
theorem nx_Zst (h0 : nx_H p σ0) (x y : Int32) : nx_Z p (fun σ => f_L_starts σ (0 : Int32) x y) ∧ nx_Z p (fun σ => f_L_starts σ (1 : Int32) x y) ∧ nx_Z p (fun σ => f_L_starts σ (2 : Int32) x y) := by
  obtain ⟨N, P, K⟩ := p
  refine ⟨?_, ?_, ?_⟩
  · obtain ⟨a, p', h1, h2⟩ := nx_S0 x y h0
    refine ⟨a, p', fun ha => ?_, h2⟩
    rcases h1 with ⟨i, -, -, -, h10, -⟩ | ⟨-, -, h11⟩
    · rw [h10] at ha; exact absurd ha (by decide)
    · exact h11
  · obtain ⟨a, p', h1, h2⟩ := nx_S1 x y h0
    refine ⟨a, p', fun ha => ?_, h2⟩
    rcases h1 with ⟨i, j, -, -, -, -, -, h10, -⟩ | ⟨-, -, h11⟩
    · rw [h10] at ha; exact absurd ha (by decide)
    · exact h11
  · obtain ⟨a, p', h1, h2⟩ := nx_S2 x y h0
    refine ⟨a, p', fun ha => ?_, h2⟩
    rcases h1 with ⟨i, j, -, -, -, -, h10, -⟩ | ⟨-, -, h11⟩
    · rw [h10] at ha; exact absurd ha (by decide)
    · exact h11
theorem nx_Zse (h0 : nx_H p σ0) (x y : Int32) : nx_Z p (fun σ => f_L_sets σ (0 : Int32) x y) ∧ nx_Z p (fun σ => f_L_sets σ (1 : Int32) x y) ∧ nx_Z p (fun σ => f_L_sets σ (2 : Int32) x y) ∧ nx_Z p (fun σ => f_L_sets σ (3 : Int32) x y) := by
  obtain ⟨N, P, K⟩ := p
  have hW : nw_W N := h0.1.1
  refine ⟨?_, ?_, ?_, ?_⟩
  · obtain ⟨a, p', h1, h2⟩ := nx_T0 x y h0
    refine ⟨a, p', fun ha => ?_, h2⟩
    rcases h1 with ⟨i, l, g1, -, -, -, -, h10, -⟩ | ⟨-, -, h11⟩
    · have := hW.e g1
      rw [h10] at ha; exact absurd ha (nI_pos (by omega))
    · exact h11
  · obtain ⟨a, p', h1, h2⟩ := nx_T1 x y h0
    refine ⟨a, p', fun ha => ?_, h2⟩
    rcases h1 with ⟨i, -, -, h10, -⟩ | ⟨-, -, h11⟩
    · rw [h10] at ha; exact absurd ha (nx_jb _)
    · exact h11
  · obtain ⟨a, p', h1, h2⟩ := nx_T2 x y h0
    refine ⟨a, p', fun ha => ?_, h2⟩
    rcases h1 with ⟨i, -, -, h10, -⟩ | ⟨-, -, h11⟩
    · rw [h10] at ha; exact absurd ha (nx_jb _)
    · exact h11
  · obtain ⟨a, p', h1, h2⟩ := nx_T3 x y h0
    refine ⟨a, p', fun ha => ?_, h2⟩
    rcases h1 with ⟨i, j, -, -, -, -, -, h10, -⟩ | ⟨-, -, h11⟩
    · rw [h10] at ha; exact absurd ha (nx_jb _)
    · exact h11
theorem nx_Zdr (h0 : nx_H p σ0) : nx_Z p (fun σ => jv_bd (f_L_draws σ (0 : Int32) (0 : Int32)) (fun q => some ((q.1 + (1 : Int32)), q.2))) ∧ nx_Z p (fun σ => jv_bd (f_L_draws σ (4 : Int32) (0 : Int32)) (fun q => some ((q.1 + (1 : Int32)), q.2))) := by
  obtain ⟨N, P, K⟩ := p
  have hW : nw_W N := h0.1.1
  refine ⟨?_, ?_⟩
  · obtain ⟨a, p', h1, h2⟩ := nx_D0 (0 : Int32) h0
    refine ⟨_, p', fun ha => ?_, nx_cp1 h2⟩
    rcases h1 with ⟨-, -, h11⟩ | ⟨fr, to, k, -, ⟨q, hq, h10, -⟩ | ⟨-, -, h11⟩⟩
    · exact h11
    · obtain ⟨p1, -, -, p4, -⟩ := nw_pp_ok hW _ _ _ q hq.1
      rw [h10, nI_1] at ha; exact absurd ha (nI_pos (by omega))
    · exact h11
  · obtain ⟨a, p', h1, h2⟩ := nx_D4 (0 : Int32) h0
    refine ⟨_, p', fun ha => ?_, nx_cp1 h2⟩
    rcases h1 with ⟨-, -, h11⟩ | ⟨fr, to, k, -, ⟨-, -, h11⟩ | ⟨-, L, -, hL, h10, -⟩ | ⟨-, -, -, h11⟩⟩
    · exact h11
    · exact h11
    · rw [h10, nI_1] at ha; exact absurd ha (nI_pos (by omega))
    · exact h11
theorem nx_Ztail (h0 : nx_H p σ0) (v : Int32) (b : Bool) (x6 x8 x14 : Int32) {r : Nat} (hr : r < 24) : nx_Z p (fun σ => nx_tail σ v b x6 x8 x14 (nI r)) := by
  have hc : ∀ k : Nat, k < 100 → (nI k ≤ nI r ↔ k ≤ r) := fun k hk => nI_leI (by omega) (by omega)
  obtain ⟨S0, S1, S2⟩ := nx_Zst h0 x6 x8
  by_cases c9 : 9 ≤ r
  · have c9' : (9 : Int32) ≤ nI r := (hc 9 (by omega)).mpr c9
    by_cases e9 : r = 9
    · obtain ⟨a, ha, ea⟩ := nx_low (x := v >>> ((9 : Int32) &&& 31)) (k := 6) (by omega) (by omega)
      have ea : f_L_low (v >>> ((9 : Int32) &&& 31)) (6 : Int32) = some (nI a) := ea
      by_cases ca : nI a = 0
      · obtain ⟨q, hq, eq⟩ : ∃ q, q < 100 ∧ f_L_low (v >>> ((4 : Int32) &&& 31)) (if b = true then (14 : Int32) else (9 : Int32)) = some (nI q) := by
          cases b
          · obtain ⟨q, hq, eq⟩ := nx_low (x := v >>> ((4 : Int32) &&& 31)) (k := 9) (by omega) (by omega)
            exact ⟨q, by omega, eq⟩
          · obtain ⟨q, hq, eq⟩ := nx_low (x := v >>> ((4 : Int32) &&& 31)) (k := 14) (by omega) (by omega)
            exact ⟨q, by omega, eq⟩
        refine (nx_Zst h0 (nI q + (if b = true then (0 : Int32) else (2 : Int32))) (0 : Int32)).1.cp.eq (fun σ _ => ?_)
        show nx_tail σ v b x6 x8 x14 (nI r) = _
        unfold nx_tail
        rw [if_pos c9', if_pos (by rw [e9]; rfl), ea, nw_bd, if_pos ca, nw_lt, eq, nw_bd, nw_lt, nw_bd]
      · refine (nx_Zst h0 (0 : Int32) (0 : Int32)).1.cp.eq (fun σ _ => ?_)
        show nx_tail σ v b x6 x8 x14 (nI r) = _
        unfold nx_tail
        rw [if_pos c9', if_pos (by rw [e9]; rfl), ea, nw_bd, if_neg ca, nw_bd]
    · have e9' : ¬ nI r = (9 : Int32) := fun h => e9 ((nI_eq (b := 9) (by omega) (by omega)).mp h)
      by_cases c12 : 12 ≤ r
      · have c12' : (12 : Int32) ≤ nI r := (hc 12 (by omega)).mpr c12
        by_cases c16 : 16 ≤ r
        · have c16' : (16 : Int32) ≤ nI r := (hc 16 (by omega)).mpr c16
          by_cases c18 : 18 ≤ r
          · have c18' : (18 : Int32) ≤ nI r := (hc 18 (by omega)).mpr c18
            by_cases c20 : 20 ≤ r
            · have c20' : (20 : Int32) ≤ nI r := (hc 20 (by omega)).mpr c20
              by_cases c22 : 22 ≤ r
              · refine (nx_Zdr h0).2.eq (fun σ _ => ?_)
                show nx_tail σ v b x6 x8 x14 (nI r) = _
                unfold nx_tail
                rw [if_pos c9', if_neg e9', if_pos c12', if_pos c16', if_pos c18', if_pos c20', if_pos (show (22 : Int32) ≤ nI r from (hc 22 (by omega)).mpr c22), nw_lt]
              · refine (nx_Zdr h0).1.eq (fun σ _ => ?_)
                show nx_tail σ v b x6 x8 x14 (nI r) = _
                unfold nx_tail
                rw [if_pos c9', if_neg e9', if_pos c12', if_pos c16', if_pos c18', if_pos c20', if_neg (show ¬ (22 : Int32) ≤ nI r from fun h => c22 ((hc 22 (by omega)).mp h)), nw_lt]
            · have c20' : ¬ (20 : Int32) ≤ nI r := fun h => c20 ((hc 20 (by omega)).mp h)
              have h1819 : r = 18 ∨ r = 19 := by omega
              rcases h1819 with e | e
              · refine S1.cp.eq (fun σ _ => ?_)
                show nx_tail σ v b x6 x8 x14 (nI r) = _
                unfold nx_tail
                rw [if_pos c9', if_neg e9', if_pos c12', if_pos c16', if_pos c18', if_neg c20', e, show nI 18 - (17 : Int32) = (1 : Int32) by decide]
              · refine S2.cp.eq (fun σ _ => ?_)
                show nx_tail σ v b x6 x8 x14 (nI r) = _
                unfold nx_tail
                rw [if_pos c9', if_neg e9', if_pos c12', if_pos c16', if_pos c18', if_neg c20', e, show nI 19 - (17 : Int32) = (2 : Int32) by decide]
          · have c18' : ¬ (18 : Int32) ≤ nI r := fun h => c18 ((hc 18 (by omega)).mp h)
            obtain ⟨a, ha, ea⟩ := nx_low (x := v >>> ((10 : Int32) &&& 31)) (k := 24) (by omega) (by omega)
            have ea : f_L_low (v >>> ((10 : Int32) &&& 31)) (24 : Int32) = some (nI a) := ea
            refine (nx_Zse h0 x14 (nI a)).2.2.2.cp.eq (fun σ _ => ?_)
            show nx_tail σ v b x6 x8 x14 (nI r) = _
            unfold nx_tail
            rw [if_pos c9', if_neg e9', if_pos c12', if_pos c16', if_neg c18', ea, nw_bd]
        · have c16' : ¬ (16 : Int32) ≤ nI r := fun h => c16 ((hc 16 (by omega)).mp h)
          by_cases c14 : 14 ≤ r
          · refine (nx_Zse h0 x6 (0 : Int32)).2.2.1.cp.eq (fun σ _ => ?_)
            show nx_tail σ v b x6 x8 x14 (nI r) = _
            unfold nx_tail
            rw [if_pos c9', if_neg e9', if_pos c12', if_neg c16', if_pos (show (14 : Int32) ≤ nI r from (hc 14 (by omega)).mpr c14), nw_lt, if_pos (show (14 : Int32) ≤ nI r from (hc 14 (by omega)).mpr c14), nw_lt]
          · refine (nx_Zse h0 x14 (0 : Int32)).2.1.cp.eq (fun σ _ => ?_)
            show nx_tail σ v b x6 x8 x14 (nI r) = _
            unfold nx_tail
            rw [if_pos c9', if_neg e9', if_pos c12', if_neg c16', if_neg (show ¬ (14 : Int32) ≤ nI r from fun h => c14 ((hc 14 (by omega)).mp h)), nw_lt, if_neg (show ¬ (14 : Int32) ≤ nI r from fun h => c14 ((hc 14 (by omega)).mp h)), nw_lt]
      · have c12' : ¬ (12 : Int32) ≤ nI r := fun h => c12 ((hc 12 (by omega)).mp h)
        obtain ⟨q, eq⟩ : ∃ q, f_L_low (v >>> ((9 : Int32) &&& 31)) (if b = true then (1100 : Int32) else (30 : Int32)) = some (nI q) := by
          cases b
          · obtain ⟨q, hq, eq⟩ := nx_low (x := v >>> ((9 : Int32) &&& 31)) (k := 30) (by omega) (by omega)
            exact ⟨q, eq⟩
          · obtain ⟨q, hq, eq⟩ := nx_low (x := v >>> ((9 : Int32) &&& 31)) (k := 1100) (by omega) (by omega)
            exact ⟨q, eq⟩
        refine (nx_Zse h0 x14 (nI q + jv_b (if b = true then false else true))).1.cp.eq (fun σ _ => ?_)
        show nx_tail σ v b x6 x8 x14 (nI r) = _
        unfold nx_tail
        rw [if_pos c9', if_neg e9', if_neg c12', nw_lt, eq, nw_bd, nw_lt]
  · have c9' : ¬ (9 : Int32) ≤ nI r := fun h => c9 ((hc 9 (by omega)).mp h)
    obtain ⟨q, eq⟩ : ∃ q, f_L_low (v >>> ((9 : Int32) &&& 31)) (if b = true then (1100 : Int32) else (30 : Int32)) = some (nI q) := by
      cases b
      · obtain ⟨q, hq, eq⟩ := nx_low (x := v >>> ((9 : Int32) &&& 31)) (k := 30) (by omega) (by omega)
        exact ⟨q, eq⟩
      · obtain ⟨q, hq, eq⟩ := nx_low (x := v >>> ((9 : Int32) &&& 31)) (k := 1100) (by omega) (by omega)
        exact ⟨q, eq⟩
    refine (nx_Zadd h0 x6 x8 (nI q + jv_b (if b = true then false else true))).cp.eq (fun σ _ => ?_)
    show nx_tail σ v b x6 x8 x14 (nI r) = _
    unfold nx_tail
    rw [if_neg c9', nw_lt, eq, nw_bd, nw_lt]
theorem nx_Zact (h0 : nx_H p σ0) (v : Int32) : nx_Z p (fun σ => f_L_act σ v) := by
  have hn := h0.1.1.n
  obtain ⟨r1, h1, e1⟩ := nx_low (x := v >>> ((24 : Int32) &&& 31)) (k := 8) (by omega) (by omega)
  have e1 : f_L_low (v >>> ((24 : Int32) &&& 31)) (8 : Int32) = some (nI r1) := e1
  generalize hb : (if nI r1 = 0 then true else false) = b
  obtain ⟨r6, e6⟩ : ∃ r6, f_L_low (v >>> ((3 : Int32) &&& 31)) (if b = true then (13 : Int32) else nI (nw_n p.1)) = some (nI r6) := by
    cases b
    · obtain ⟨q, hq, eq⟩ := nx_low (x := v >>> ((3 : Int32) &&& 31)) (k := nw_n p.1) (by omega) (by omega)
      exact ⟨q, eq⟩
    · obtain ⟨q, hq, eq⟩ := nx_low (x := v >>> ((3 : Int32) &&& 31)) (k := 13) (by omega) (by omega)
      exact ⟨q, eq⟩
  obtain ⟨x8, e8⟩ : ∃ x8, (if b = true then (jv_bd (f_L_low (v >>> ((6 : Int32) &&& 31)) (13 : Int32)) (fun q11 => some q11)) else (jv_bd (f_L_low (v >>> ((6 : Int32) &&& 31)) (nI (nw_n p.1) - (1 : Int32))) (fun q9 => if nI (nw_n p.1) = 0 then none else (some (((nI r6 + (1 : Int32)) + q9) - ((nI r6 + (1 : Int32)) + q9) / nI (nw_n p.1) * nI (nw_n p.1)))))) = some x8 := by
    cases b
    · obtain ⟨q, hq, eq⟩ := nx_low (x := v >>> ((6 : Int32) &&& 31)) (k := nw_n p.1 - 1) (by omega) (by omega)
      refine ⟨((nI r6 + (1 : Int32)) + nI q) - ((nI r6 + (1 : Int32)) + nI q) / nI (nw_n p.1) * nI (nw_n p.1), ?_⟩
      rw [if_neg (by decide), show nI (nw_n p.1) - (1 : Int32) = nI (nw_n p.1 - 1) from pk_sub (b := 1) (by omega), eq, nw_bd, if_neg (nI_ne0 (by omega) (by omega))]
    · obtain ⟨q, hq, eq⟩ := nx_low (x := v >>> ((6 : Int32) &&& 31)) (k := 13) (by omega) (by omega)
      refine ⟨nI q, ?_⟩
      rw [if_pos rfl, show f_L_low (v >>> ((6 : Int32) &&& 31)) (13 : Int32) = some (nI q) from eq, nw_bd]
  obtain ⟨r14, e14⟩ : ∃ r14, f_L_low (v >>> ((5 : Int32) &&& 31)) (if b = true then (30 : Int32) else (nI (nw_m p.1) + (1 : Int32))) = some (nI r14) := by
    cases b
    · obtain ⟨q, hq, eq⟩ := nx_low (x := v >>> ((5 : Int32) &&& 31)) (k := nw_m p.1 + 1) (by omega) (by omega)
      exact ⟨q, by rw [if_neg (by decide), nI_1]; exact eq⟩
    · obtain ⟨q, hq, eq⟩ := nx_low (x := v >>> ((5 : Int32) &&& 31)) (k := 30) (by omega) (by omega)
      exact ⟨q, eq⟩
  obtain ⟨r15, h15, e15⟩ := nx_low (x := v) (k := 24) (by omega) (by omega)
  have e15 : f_L_low v (24 : Int32) = some (nI r15) := e15
  refine (nx_Ztail h0 v b (nI r6) x8 (nI r14) h15).eq (fun σ h => ?_)
  show f_L_act σ v = _
  unfold f_L_act
  rw [e1, nw_bd, hb, nw_lt, nx_nodes h, nw_lt, e6, nw_bd, e8, nw_bd, nx_edges h, nw_lt, e14, nw_bd, e15, nw_bd]
  rfl
/-- both objects tell the same -/
theorem nx_two_act {σ ρ : jv_S} (h : nx_H p σ) (h' : nx_H p ρ) (v : Int32) : ∃ a p', (a < 0 → p' = p) ∧ ∃ σ' ρ', f_L_act σ v = some (a, σ') ∧ nx_H p' σ' ∧ f_L_act ρ v = some (a, ρ') ∧ nx_H p' ρ' := by
  obtain ⟨a, p', h1, h2⟩ := nx_Zact h v
  obtain ⟨σ', g1, g2⟩ := h2 σ h
  obtain ⟨ρ', k1, k2⟩ := h2 ρ h'
  exact ⟨a, p', h1, σ', ρ', g1, g2, k1, k2⟩
/-! ===== both are alike ===== -/
theorem nx_dB (h0 : nx_H p σ0) : ∀ j : Nat, 1 ≤ j → j < 8 → j ≠ 4 → ∃ a, nx_D p (fun σ => f_L_draws σ (nI j) (0 : Int32)) a p := by
  obtain ⟨N, P, K⟩ := p
  intro j h1 h2 h3
  have : j = 1 ∨ j = 2 ∨ j = 3 ∨ j = 5 ∨ j = 6 ∨ j = 7 := by omega
  rcases this with rfl | rfl | rfl | rfl | rfl | rfl
  · exact nx_B1 (0 : Int32)
  · exact nx_B2 (0 : Int32) h0
  · exact nx_B3 h0
  · exact nx_B5 (0 : Int32)
  · exact (nx_B67 h0).1
  · exact (nx_B67 h0).2
theorem nx_dA (h0 : nx_H p σ0) {i i' : Nat} (hi : i < nw_n p.1) (hi' : i' < nw_n p.1) : ∀ j : Nat, j < 6 → ∃ a, nx_D p (fun σ => f_L_asks σ (nI j) (nI i) (nI i') (1 : Int32)) a p := by
  intro j h2
  have : j = 0 ∨ j = 1 ∨ j = 2 ∨ j = 3 ∨ j = 4 ∨ j = 5 := by omega
  rcases this with rfl | rfl | rfl | rfl | rfl | rfl
  · obtain ⟨x, -, h⟩ := nx_A0 h0 hi hi' (1 : Int32); exact ⟨_, h⟩
  · obtain ⟨L, w, -, h⟩ := nx_A1 h0 hi hi' (1 : Int32); exact ⟨_, h⟩
  · obtain ⟨L, w, -, -, h⟩ := nx_A2 h0 hi hi' (1 : Int32); exact ⟨_, h⟩
  · obtain ⟨L, w, -, h⟩ := nx_A3 h0 hi hi'; exact ⟨_, h⟩
  · by_cases c : i = i'
    · subst c; exact ⟨_, nx_A4e hi (1 : Int32) false⟩
    · obtain ⟨a, -, h⟩ := nx_A4 h0 hi hi' c (l := 1) (Nat.le_refl _) (by omega) false; exact ⟨_, h⟩
  · by_cases c : i = i'
    · subst c; exact ⟨_, nx_A4e hi (1 : Int32) true⟩
    · obtain ⟨a, -, h⟩ := nx_A4 h0 hi hi' c (l := 1) (Nat.le_refl _) (by omega) true; exact ⟨_, h⟩
theorem nx_lp64 (a3 a4 : Int32) : ∀ (k j fuel : Nat) (σ ρ : jv_S), 1 ≤ j → j + k = 8 → k < fuel → nx_H p σ → nx_H p ρ → ∃ σ' ρ', f_L_areAlike_lp64 a3 a4 fuel true (nI j) (σ, ρ) = some (true, nI 8, σ', ρ') ∧ nx_H p σ' ∧ nx_H p ρ' := by
  intro k
  induction k with
  | zero =>
    intro j fuel σ ρ h1 hj hf h h'
    obtain ⟨f, rfl⟩ := nw_f0 hf
    have : j = 8 := by omega
    subst this
    refine ⟨σ, ρ, ?_, h, h'⟩
    rw [f_L_areAlike_lp64, if_pos (show (8 : Int32) ≤ nI 8 from nI_le (Nat.le_refl _) (by omega))]
  | succ k ih =>
    intro j fuel σ ρ h1 hj hf h h'
    obtain ⟨f, rfl, hg⟩ := nw_fe hf
    rw [f_L_areAlike_lp64, if_neg (show ¬ (8 : Int32) ≤ nI j from nI_ge (b := 8) (by omega) (by omega)), if_pos rfl, nI_1]
    by_cases c : j = 4
    · subst c
      rw [if_pos (show nI 4 = (4 : Int32) from rfl), nw_bd]
      exact ih 5 f σ ρ (by omega) (by omega) hg h h'
    · rw [if_neg (show ¬ nI j = (4 : Int32) from fun e => c ((nI_eq (b := 4) (by omega) (by omega)).mp e))]
      obtain ⟨a, ha⟩ := nx_dB h j h1 (by omega) c
      obtain ⟨σ', g1, g2⟩ := ha σ h
      obtain ⟨ρ', k1, k2⟩ := ha ρ h'
      have g1 : f_L_draws σ (nI j) (0 : Int32) = some (a, σ') := g1
      have k1 : f_L_draws ρ (nI j) (0 : Int32) = some (a, ρ') := k1
      show ∃ σ' ρ', jv_bd (jv_bd (f_L_draws σ (nI j) (0 : Int32)) _) _ = _ ∧ _
      rw [g1, nw_bd]
      show ∃ σ'' ρ'', jv_bd (jv_bd (f_L_draws ρ (nI j) (0 : Int32)) _) _ = _ ∧ _
      rw [k1, nw_bd, if_pos rfl, nw_bd]
      exact ih (j + 1) f σ' ρ' (by omega) (by omega) hg g2 k2
theorem nx_lp115 {i i' : Nat} (hi : i < nw_n p.1) (hi' : i' < nw_n p.1) : ∀ (k j fuel : Nat) (σ ρ : jv_S), j + k = 6 → k < fuel → nx_H p σ → nx_H p ρ → ∃ σ' ρ', f_L_areAlike_lp115 (nI i) (nI i') fuel true (nI j) (σ, ρ) = some (true, nI 6, σ', ρ') ∧ nx_H p σ' ∧ nx_H p ρ' := by
  intro k
  induction k with
  | zero =>
    intro j fuel σ ρ hj hf h h'
    obtain ⟨f, rfl⟩ := nw_f0 hf
    have : j = 6 := by omega
    subst this
    refine ⟨σ, ρ, ?_, h, h'⟩
    rw [f_L_areAlike_lp115, if_pos (show (6 : Int32) ≤ nI 6 from nI_le (Nat.le_refl _) (by omega))]
  | succ k ih =>
    intro j fuel σ ρ hj hf h h'
    obtain ⟨f, rfl, hg⟩ := nw_fe hf
    rw [f_L_areAlike_lp115, if_neg (show ¬ (6 : Int32) ≤ nI j from nI_ge (b := 6) (by omega) (by omega)), if_pos rfl, nI_1]
    obtain ⟨a, ha⟩ := nx_dA h hi hi' j (by omega)
    obtain ⟨σ', g1, g2⟩ := ha σ h
    obtain ⟨ρ', k1, k2⟩ := ha ρ h'
    have g1 : f_L_asks σ (nI j) (nI i) (nI i') (1 : Int32) = some (a, σ') := g1
    have k1 : f_L_asks ρ (nI j) (nI i) (nI i') (1 : Int32) = some (a, ρ') := k1
    show ∃ σ' ρ', jv_bd (f_L_asks σ (nI j) (nI i) (nI i') (1 : Int32)) _ = _ ∧ _
    rw [g1, nw_bd]
    show ∃ σ'' ρ'', jv_bd (f_L_asks ρ (nI j) (nI i) (nI i') (1 : Int32)) _ = _ ∧ _
    rw [k1, nw_bd, if_pos rfl, nw_lt]
    exact ih (j + 1) f σ' ρ' (by omega) hg g2 k2
theorem nx_alike {σ ρ : jv_S} (h : nx_H p σ) (h' : nx_H p ρ) (v : Int32) : ∃ σ' ρ', f_L_areAlike (σ, ρ) v = some (true, σ', ρ') ∧ nx_H p σ' ∧ nx_H p ρ' := by
  have hn := h.1.1.n
  obtain ⟨i, hi, e1⟩ := nx_low (x := v) (k := nw_n p.1) (by omega) (by omega)
  obtain ⟨i', hi', e2⟩ := nx_low (x := v >>> ((4 : Int32) &&& 31)) (k := nw_n p.1) (by omega) (by omega)
  obtain ⟨σ1, ρ1, g1, g2, g3⟩ := nx_lp64 (nI i) (nI i') 7 1 8 σ ρ (by omega) (by omega) (by omega) h h'
  obtain ⟨σ2, ρ2, k1, k2, k3⟩ := nx_lp115 hi hi' 6 0 7 σ1 ρ1 (by omega) (by omega) g2 g3
  refine ⟨σ2, ρ2, ?_, k2, k3⟩
  have g1 : f_L_areAlike_lp64 (nI i) (nI i') 8 true (1 : Int32) (σ, ρ) = some (true, nI 8, σ1, ρ1) := g1
  have k1 : f_L_areAlike_lp115 (nI i) (nI i') 7 true (0 : Int32) (σ1, ρ1) = some (true, nI 6, σ2, ρ2) := k1
  unfold f_L_areAlike
  dsimp only
  rw [nx_nodes h, nx_nodes h', nx_edges h, nx_edges h', nx_usable h, nx_usable h', e1, nw_bd, e2, nw_bd, if_pos rfl, if_pos rfl, if_pos rfl, nw_lt, g1, nw_bd, k1, nw_bd]
end NXACT
