/-! ===== the reference adds paths, and counts ===== -/
def nw_pS (k j : Nat) : Bool := (k == 35 && j == 38) || (k == 53 || k == 54 || k == 55 || k == 56 || k == 57 || k == 58)
theorem nw_pS_M (k j : Nat) (h : nw_pM k j = true) : nw_pS k j = false := by
  simp only [nw_pM, nw_pS, Bool.or_eq_true, Bool.and_eq_true, beq_iff_eq, Bool.or_eq_false_iff, Bool.and_eq_false_iff, beq_eq_false_iff_ne] at h ⊢
  omega
theorem nw_pS_U {σ τ : jv_S} (h : nw_f nw_pU σ τ) : nw_f nw_pS σ τ := h.mono (fun k j h => by
  simp only [nw_pU, nw_pS, Bool.or_eq_true, Bool.and_eq_true, beq_iff_eq, Bool.or_eq_false_iff, Bool.and_eq_false_iff, beq_eq_false_iff_ne] at h ⊢
  omega)
theorem nw_pS_r {a : Nat} (ha : 53 ≤ a ∧ a ≤ 58) {σ τ : jv_S} (h : nw_f (nw_r a) σ τ) : nw_f nw_pS σ τ := h.mono (fun k j h => by
  simp only [nw_r, nw_pS, Bool.or_eq_true, Bool.and_eq_true, beq_iff_eq, Bool.or_eq_false_iff, Bool.and_eq_false_iff, beq_eq_false_iff_ne] at h ⊢
  omega)
section NWZ
variable {N : nw_N} {fr to : Nat} {ap : Bool} {x : Nat → Nat} {π : Nat → Int} {k : Nat}
theorem nw_S20 {b : nw_B} (h : ∀ p, p < 20 → b.1 p ≤ 1000000000) : wk_S 20 b.1 ≤ 20000000000 := by
  have h1 := wk_S_le (n := 20) (f := b.1) (g := fun _ => 1000000000) h
  have h2 : wk_S 20 (fun _ => 1000000000) = 20000000000 := rfl
  omega
theorem nw_addB (hW : nw_W N) (hfr : fr < nw_n N) (hto : to < nw_n N) (hG : nw_G (nw_tl N) (nw_hd N) (nw_cc N) (nw_uB N fr to ap) (2 * fr) (2 * to + 1) k x π) {σ : jv_S} (hK : nw_KB N fr to ap (nw_JL N) x σ) :
    ∃ τ D, f_X8_flows σ (nI fr) (nI to) = some (nI D, τ) ∧ nw_f nw_pS σ τ ∧ ((D < 1000000000 ∧ ∃ x' π', nw_KB N fr to ap (nw_JL N) x' τ ∧ nw_G (nw_tl N) (nw_hd N) (nw_cc N) (nw_uB N fr to ap) (2 * fr) (2 * to + 1) (k + 1) x' π' ∧ nw_co (nw_cc N) x' = nw_co (nw_cc N) x + (D : Int)) ∨ (D = 1000000000 ∧ nw_KB N fr to ap (nw_JL N) x τ ∧ ∀ (y : Nat → Nat) (val : Int), nw_fe2 (nw_tl N) (nw_hd N) (nw_uB N fr to ap) (2 * fr) (2 * to + 1) val y → val ≤ (k : Int))) := by
  have hN := nw_gntB (ap := ap) hW hfr hto
  have hn := hW.n
  obtain ⟨hI0, hS0⟩ := nw_BI0 hN hG
  obtain ⟨τ0, z0, a1, a2, a3⟩ := nw_f2 (fr := fr) (by omega) (a2 := nI to) 20 0 jv_fuel σ rfl (nw_fu (by omega)) (fun p hp => by omega)
  have hf0 : nw_f nw_pU σ τ0 := a2.mono (fun k j h => by
    simp only [nw_pU, nw_r, Bool.or_eq_false_iff] at h ⊢; exact h.1)
  have hr0 : nw_rC N (2 * fr) (nw_b0 (2 * fr)) τ0 := ⟨fun p hp => by
      rw [a3 _ (nw_rp2_lt hp)]
      show _ = nI (if p = 2 * fr then 0 else 1000000000)
      congr 1
      by_cases e : p = 2 * fr
      · rw [if_pos e, e, nw_rp2_e, if_pos rfl]
      · rw [if_neg e, if_neg (fun h => e (nw_rp2_inj hp (by omega) (by rw [h, nw_rp2_e])))], fun p hp h hps => by
      have h' : (if p = 2 * fr then 0 else 1000000000) < 1000000000 := h
      rw [if_neg hps] at h'; omega⟩
  obtain ⟨τ, c, b, g1, g2, g3, g4, g5⟩ := nw_f33 hW hfr hto hG (a1 := nI fr) (a2 := nI to) (wk_S 20 (nw_b0 (2 * fr)).1) jv_fuel τ0 (nw_b0 (2 * fr)) (Nat.le_refl _) (by have := nw_S20 hI0.2.1; have := nw_fu (k := 20000000001) (by omega); omega) (hK.keep hf0) hI0 hr0
  have hft := hf0.trans g2
  have hKt := hK.keep hft
  have ht20 : 2 * to + 1 < 20 := by omega
  have hbt := g4.2.1 _ ht20
  have h57 : τ.1 57 (10 + to) = nI (b.1 (2 * to + 1)) := by have := g3.1 _ ht20; rwa [nw_rp2_o] at this
  unfold f_X8_flows
  rw [show f_X8_flows_lp2 (nI fr) (nI to) jv_fuel (0 : Int32) σ = _ from a1, nw_bd, show f_X8_flows_lp33 (nI fr) (nI to) jv_fuel true τ0 = _ from g1, nw_bd, show (10 : Int32) = nI 10 from rfl, nI_add, nw_ck (by omega) (by omega), if_pos rfl, nI_clamp (by omega), h57]
  by_cases c1 : b.1 (2 * to + 1) < 1000000000
  · rw [if_neg (show ¬ nI (b.1 (2 * to + 1)) = (1000000000 : Int32) from fun h => by have := (nI_eq (b := 1000000000) (by omega) (by omega)).mp h; omega), nw_lt]
    obtain ⟨Q, π', q1, q2, q3, q4, q5, q6, q7⟩ := nw_more hN hG g4 g5 c1
    obtain ⟨ρ, z, m1, m2, m3⟩ := nw_sendB hW hfr hto hG.1 (a2 := nI to) g4 Q (2 * to + 1) jv_fuel x τ q1 ht20 c1 (nw_fu (by omega)) q3 q4 hG.1 hKt g3
    rw [nw_rp2_o] at m1
    rw [m1, nw_bd, if_pos rfl, m2.row (by decide), h57]
    exact ⟨ρ, _, rfl, (nw_pS_U hft).trans (nw_pS_r (by omega) m2), Or.inl ⟨c1, _, π', m3, q6, q7⟩⟩
  · have hF : b.1 (2 * to + 1) = 1000000000 := by omega
    rw [if_pos (show nI (b.1 (2 * to + 1)) = (1000000000 : Int32) by rw [hF]; rfl), nw_lt]
    obtain ⟨fu, hfu⟩ := nw_f0 (nw_fu (k := 0) (by omega))
    rw [hfu, f_X8_flows_lp194, if_pos rfl, nw_bd, if_pos rfl, h57]
    exact ⟨τ, _, rfl, nw_pS_U hft, Or.inr ⟨hF, hKt, fun y val hy => nw_nomore hN hG g4 g5 c1 hy⟩⟩
def nw_pK (k j : Nat) : Bool := (k == 35 && j == 38) || (k == 53 || k == 54 || k == 55 || k == 56)
theorem nw_arcR {J : List Nat} {σ : jv_S} {a p q c : Nat} (hJ : J.length < 34) (hK : nw_KB N fr to ap J (fun _ => 0) σ) (hp : p = nw_rp2 (nw_tl N a)) (hq : q = nw_rp2 (nw_hd N a)) (hc : c = nw_cc N a) : ∃ τ, f_X8_arc σ (nI p) (nI q) (nI c) = some τ ∧ nw_f nw_pK σ τ ∧ τ.1 35 38 = nI (2 * (J.length + 1)) ∧ ∀ r, r = nI (nw_uB N fr to ap a) → nw_KB N fr to ap (J ++ [a]) (fun _ => 0) (jv_si τ 55 (2 * J.length) r) := by
  unfold f_X8_arc
  rw [hK.1, nw_ck (by omega) (by omega), nI_1, nw_ck (by omega) (by omega), nI_clamp (by omega), nI_clamp (by omega)]
  simp only [if_true]
  refine ⟨_, rfl, ((((((((nw_f.rfl.si (by rfl)).si (by rfl)).si (by rfl)).si (by rfl)).si (by rfl)).si (by rfl)).si (by rfl)).si (by rfl)).si (by rfl), ?_, fun r hr => ⟨?_, fun j a' hj => ?_⟩⟩
  · rw [nw_gs, show (2 : Int32) = nI 2 from rfl, nI_add]; congr 1
  · rw [nw_gn (by decide), nw_gs, show (2 : Int32) = nI 2 from rfl, nI_add, List.length_append, List.length_singleton]; congr 1
  · by_cases e : j < J.length
    · rw [List.getElem?_append_left e] at hj
      obtain ⟨⟨m1, m2, m3, m4⟩, m5, m6, m7, m8⟩ := hK.2 j a' hj
      refine ⟨⟨?_, ?_, ?_, ?_⟩, ?_, ?_, ?_, ?_⟩
      all_goals simp only [nw_g]
      all_goals (repeat rw [if_neg (by omega)])
      all_goals assumption
    · rw [List.getElem?_append_right (by omega)] at hj
      have hj0 : j = J.length := by
        have := (List.getElem?_eq_some_iff.mp hj).1
        simp at this; omega
      subst hj0
      rw [Nat.sub_self, List.getElem?_cons_zero] at hj
      cases hj
      refine ⟨⟨?_, ?_, ?_, ?_⟩, ?_, ?_, ?_, ?_⟩
      · rw [nw_gn (by decide), nw_gn (by decide), nw_gn (by decide), nw_gn (by decide), nw_gn (by decide), nw_gj (by omega), nw_gn (by decide), nw_gn (by decide), nw_gn (by decide), nw_gs, hp]
      · rw [nw_gn (by decide), nw_gn (by decide), nw_gn (by decide), nw_gn (by decide), nw_gj (by omega), nw_gn (by decide), nw_gn (by decide), nw_gn (by decide), nw_gs, hq]
      · rw [nw_gs, hr]; rfl
      · rw [nw_gn (by decide), nw_gn (by decide), nw_gj (by omega), nw_gn (by decide), nw_gn (by decide), nw_gn (by decide), nw_gs, hc]
      · rw [nw_gn (by decide), nw_gn (by decide), nw_gn (by decide), nw_gn (by decide), nw_gn (by decide), nw_gs, hq]
      · rw [nw_gn (by decide), nw_gn (by decide), nw_gn (by decide), nw_gn (by decide), nw_gs, hp]
      · rw [nw_gj (by omega), nw_gn (by decide), nw_gn (by decide), nw_gs]; rfl
      · rw [nw_gn (by decide), nw_gn (by decide), nw_gs, hc]
theorem nw_pK_M (k j : Nat) (h : nw_pM k j = true) : nw_pK k j = false := by
  simp only [nw_pM, nw_pK, Bool.or_eq_true, Bool.and_eq_true, beq_iff_eq, Bool.or_eq_false_iff, Bool.and_eq_false_iff, beq_eq_false_iff_ne] at h ⊢
  omega
theorem nw_lay8 (hW : nw_W N) (hfr : fr < nw_n N) (hto : to < nw_n N) : ∀ (r v fuel : Nat) (σ : jv_S), v + r = nw_n N → r < fuel → nw_M N σ → nw_KB N fr to ap ((List.range' 0 v).map (fun w => 24 + w)) (fun _ => 0) σ →
    ∃ τ z, f_X8_laysArcs_lp8 (nI fr) (nI to) (jv_b ap) fuel (nI v) σ = some (z, τ) ∧ nw_f nw_pK σ τ ∧ nw_KB N fr to ap ((List.range' 0 (nw_n N)).map (fun w => 24 + w)) (fun _ => 0) τ := by
  have hn := hW.n
  intro r
  induction r with
  | zero =>
    intro v fuel σ hv hf hM hK
    obtain ⟨f, rfl⟩ := nw_f0 hf
    have hv : v = nw_n N := by omega
    subst hv
    exact ⟨σ, _, by rw [f_X8_laysArcs_lp8, hM.1, if_pos (nI_le (Nat.le_refl _) (by omega))], nw_f.rfl, hK⟩
  | succ r ih =>
    intro v fuel σ hv hf hM hK
    obtain ⟨f, rfl, hg⟩ := nw_fe hf
    have e0 : nw_tl N (24 + v) = 2 * v := by unfold nw_tl; rw [if_neg (by omega)]; omega
    have e1 : nw_hd N (24 + v) = 2 * v + 1 := by unfold nw_hd; rw [if_neg (by omega)]; omega
    have hlen : ((List.range' 0 v).map (fun w => 24 + w)).length = v := by simp
    obtain ⟨τ, g1, g2, g3, g4⟩ := nw_arcR (a := 24 + v) (p := v) (q := 10 + v) (c := 0) (by rw [hlen]; omega) hK (by rw [e0, nw_rp2_e]) (by rw [e1, nw_rp2_o]) (by rw [nw_cc0 hW (by omega)])
    rw [hlen] at g3 g4
    have hroom : (if jv_b ap = 0 then ((24 : Int32)) else (if nI v = nI fr then ((24 : Int32)) else (if nI v = nI to then ((24 : Int32)) else ((1 : Int32))))) = nI (nw_uB N fr to ap (24 + v)) := by
      have hU : nw_uB N fr to ap (24 + v) = (if ap = true ∧ 24 + v ≠ 24 + fr ∧ 24 + v ≠ 24 + to then 1 else 24) := by
        unfold nw_uB
        rw [if_neg (show ¬ 24 + v < 24 by omega), if_neg (show ¬ nw_n N ≤ 24 + v - 24 by omega)]
      rw [hU]
      by_cases c0 : ap = true
      · rw [if_neg (show ¬ jv_b ap = 0 by rw [c0]; decide)]
        by_cases c1 : v = fr
        · rw [if_pos (show nI v = nI fr by rw [c1]), if_neg (show ¬ (ap = true ∧ 24 + v ≠ 24 + fr ∧ 24 + v ≠ 24 + to) from fun h => h.2.1 (by omega))]; rfl
        · rw [if_neg (show ¬ nI v = nI fr from fun h => c1 ((nI_eq (by omega) (by omega)).mp h))]
          by_cases c2 : v = to
          · rw [if_pos (show nI v = nI to by rw [c2]), if_neg (show ¬ (ap = true ∧ 24 + v ≠ 24 + fr ∧ 24 + v ≠ 24 + to) from fun h => h.2.2 (by omega))]; rfl
          · rw [if_neg (show ¬ nI v = nI to from fun h => c2 ((nI_eq (by omega) (by omega)).mp h)), if_pos (show ap = true ∧ 24 + v ≠ 24 + fr ∧ 24 + v ≠ 24 + to from ⟨c0, by omega, by omega⟩)]; rfl
      · rw [if_pos (show jv_b ap = 0 by rw [Bool.eq_false_iff.mpr c0]; rfl), if_neg (show ¬ (ap = true ∧ 24 + v ≠ 24 + fr ∧ 24 + v ≠ 24 + to) from fun h => c0 h.1)]; rfl
    rw [f_X8_laysArcs_lp8, hM.1, if_neg (nI_ge (by omega) (by omega)), show (10 : Int32) = nI 10 from rfl, nI_add, show f_X8_arc σ (nI v) (nI (10 + v)) (0 : Int32) = _ from g1, nw_bd, hroom, nw_lt, g3, show (2 : Int32) = nI 2 from rfl, pk_sub (by omega), nw_ck (by omega) (by omega), if_pos rfl, nI_clamp (by omega), nI_1, show 2 * (v + 1) - 2 = 2 * v by omega]
    have hf1 : nw_f nw_pK σ (jv_si τ 55 (2 * v) (nI (nw_uB N fr to ap (24 + v)))) := g2.si (by rfl)
    obtain ⟨ρ, z, m1, m2, m3⟩ := ih (v + 1) f _ (by omega) hg (hf1.keepM hM nw_pK_M) (by
      rw [nw_rga 0 v 1, List.map_append, Nat.zero_add]
      exact g4 _ rfl)
    exact ⟨ρ, z, m1, hf1.trans m2, m3⟩
theorem nw_lay71 (hW : nw_W N) (hfr : fr < nw_n N) (hto : to < nw_n N) : ∀ (r e fuel : Nat) (σ : jv_S), e + r = nw_m N → r < fuel → nw_M N σ → nw_KB N fr to ap ((List.range' 0 (nw_n N)).map (fun w => 24 + w) ++ (List.range' 0 e).filter (fun e => nw_us N e)) (fun _ => 0) σ →
    ∃ τ z, f_X8_laysArcs_lp71 fuel (nI e) σ = some (z, τ) ∧ nw_f nw_pK σ τ ∧ nw_KB N fr to ap (nw_JL N) (fun _ => 0) τ := by
  have hn := hW.n
  intro r
  induction r with
  | zero =>
    intro e fuel σ he hf hM hK
    obtain ⟨f, rfl⟩ := nw_f0 hf
    have he : e = nw_m N := by omega
    subst he
    exact ⟨σ, _, by rw [f_X8_laysArcs_lp71, hM.2.1, if_pos (nI_le (Nat.le_refl _) (by omega))], nw_f.rfl, hK⟩
  | succ r ih =>
    intro e fuel σ he hf hM hK
    obtain ⟨f, rfl, hg⟩ := nw_fe hf
    have hem : e < nw_m N := by omega
    have hb := hW.e hem
    have hr := hM.2.2.1 e hem
    rw [f_X8_laysArcs_lp71, hM.2.1, if_neg (nI_ge (by omega) (by omega)), nw_usM hW hM hem, nw_bd, nI_1]
    have hspl : (List.range' 0 (e + 1)).filter (fun e => nw_us N e) = (List.range' 0 e).filter (fun e => nw_us N e) ++ if nw_us N e = true then [e] else [] := by
      rw [nw_rga 0 e 1, List.filter_append, Nat.zero_add]
      show _ = _
      cases hus : nw_us N e <;> simp [List.range', hus]
    cases hus : nw_us N e
    · rw [if_neg (by decide), nw_bd]
      refine ih (e + 1) f σ (by omega) hg hM ?_
      rw [hspl, hus]
      simpa using hK
    · rw [if_pos rfl, nw_ck (by omega) (by omega), nI_clamp (by omega), hr.1, hr.2.1, hr.2.2.1]
      simp only [if_true]
      have e0 : nw_tl N e = 2 * nw_t N e + 1 := by unfold nw_tl; rw [if_pos (by omega)]
      have e1 : nw_hd N e = 2 * nw_e N e := by unfold nw_hd; rw [if_pos (by omega)]
      have hlen : ((List.range' 0 (nw_n N)).map (fun w => 24 + w) ++ (List.range' 0 e).filter (fun e => nw_us N e)).length < 34 := by
        rw [List.length_append, List.length_map, List.length_range']
        have := List.length_filter_le (fun e => nw_us N e) (List.range' 0 e)
        rw [List.length_range'] at this
        omega
      obtain ⟨τ, g1, g2, g3, g4⟩ := nw_arcR (a := e) (p := 10 + nw_t N e) (q := nw_e N e) (c := nw_l N e) hlen hK (by rw [e0, nw_rp2_o]) (by rw [e1, nw_rp2_e]) (by unfold nw_cc; rw [if_pos ⟨hem, hus⟩])
      have hu1 : nw_uB N fr to ap e = 1 := by unfold nw_uB; rw [if_pos (by omega), if_pos ⟨hem, hus⟩]
      rw [show (10 : Int32) = nI 10 from rfl, nI_add, g1, nw_bd, nw_bd]
      -- the room is laid as 1
      have hself : jv_si τ 55 (2 * ((List.range' 0 (nw_n N)).map (fun w => 24 + w) ++ (List.range' 0 e).filter (fun e => nw_us N e)).length) (nI 1) = τ := by
        have h55 : τ.1 55 (2 * ((List.range' 0 (nw_n N)).map (fun w => 24 + w) ++ (List.range' 0 e).filter (fun e => nw_us N e)).length) = nI 1 := by
          have h := g1
          unfold f_X8_arc at h
          rw [hK.1, nw_ck (by omega) (by omega), nI_1, nw_ck (by omega) (by omega), nI_clamp (by omega), nI_clamp (by omega)] at h
          simp only [if_true, Option.some.injEq] at h
          rw [← h, nw_gn (by decide), nw_gn (by decide), nw_gj (by omega), nw_gn (by decide), nw_gn (by decide), nw_gn (by decide), nw_gs]
          rfl
        refine Prod.ext ?_ rfl
        funext k j
        rw [nw_g]
        split
        · rename_i hkj; rw [hkj.1, hkj.2, h55]
        · rfl
      have hKn := g4 (nI 1) (by rw [hu1])
      rw [hself] at hKn
      obtain ⟨ρ, z, m1, m2, m3⟩ := ih (e + 1) f τ (by omega) hg (g2.keepM hM nw_pK_M) (by
        rw [hspl, hus, if_pos rfl, ← List.append_assoc]
        exact hKn)
      exact ⟨ρ, z, m1, g2.trans m2, m3⟩
theorem nw_layB (hW : nw_W N) (hfr : fr < nw_n N) (hto : to < nw_n N) {σ : jv_S} (hM : nw_M N σ) : ∃ τ, f_X8_laysArcs σ (nI fr) (nI to) (jv_b ap) = some τ ∧ nw_f nw_pS σ τ ∧ nw_KB N fr to ap (nw_JL N) (fun _ => 0) τ := by
  have hn := hW.n
  have hf0 : nw_f nw_pK σ (jv_si σ 35 38 (0 : Int32)) := nw_f.rfl.si (by rfl)
  obtain ⟨τ, z, g1, g2, g3⟩ := nw_lay8 (ap := ap) hW hfr hto (nw_n N) 0 jv_fuel (jv_si σ 35 38 (0 : Int32)) (by omega) (nw_fu (by omega)) (hf0.keepM hM nw_pK_M) ⟨by rw [nw_gs]; rfl, fun j a hj => by simp at hj⟩
  obtain ⟨ρ, z2, m1, m2, m3⟩ := nw_lay71 (ap := ap) hW hfr hto (nw_m N) 0 jv_fuel τ (by omega) (nw_fu (by omega)) ((hf0.trans g2).keepM hM nw_pK_M) (by simpa using g3)
  refine ⟨ρ, ?_, ((hf0.trans g2).trans m2).mono (fun k j h => ?_), m3⟩
  · unfold f_X8_laysArcs
    rw [show f_X8_laysArcs_lp8 (nI fr) (nI to) (jv_b ap) jv_fuel (0 : Int32) _ = _ from g1, nw_bd, show f_X8_laysArcs_lp71 jv_fuel (0 : Int32) τ = _ from m1, nw_bd]
  · simp only [nw_pS, nw_pK, Bool.or_eq_true, Bool.and_eq_true, beq_iff_eq, Bool.or_eq_false_iff, Bool.and_eq_false_iff, beq_eq_false_iff_ne] at h ⊢
    omega
def nw_OB (N : nw_N) (fr to : Nat) (ap : Bool) (k : Nat) (c : Int) : Prop := ∃ x π, nw_G (nw_tl N) (nw_hd N) (nw_cc N) (nw_uB N fr to ap) (2 * fr) (2 * to + 1) k x π ∧ nw_co (nw_cc N) x = c
def nw_NB (N : nw_N) (fr to : Nat) (ap : Bool) (k : Nat) : Prop := ∀ (y : Nat → Nat) (val : Int), nw_fe2 (nw_tl N) (nw_hd N) (nw_uB N fr to ap) (2 * fr) (2 * to + 1) val y → val ≤ (k : Int)
theorem nw_manyB (hW : nw_W N) (hfr : fr < nw_n N) (hto : to < nw_n N) (hne : fr ≠ to) : ∀ (j k fuel : Nat) (x : Nat → Nat) (π : Nat → Int) (σ : jv_S), k + j = 25 → j < fuel → nw_G (nw_tl N) (nw_hd N) (nw_cc N) (nw_uB N fr to ap) (2 * fr) (2 * to + 1) k x π → nw_KB N fr to ap (nw_JL N) x σ → (∀ i, i ≤ k → ∃ c, nw_OB N fr to ap i c) →
    ∃ τ T, f_X8_many_lp10 (nI fr) (nI to) fuel (nI k) σ = some (nI T, τ) ∧ nw_f nw_pS σ τ ∧ T ≤ 24 ∧ (∀ i, i ≤ T → ∃ c, nw_OB N fr to ap i c) ∧ nw_NB N fr to ap T := by
  intro j
  induction j with
  | zero =>
    intro k fuel x π σ hj hf hG hK hO
    have := (nw_BtoA hW hfr hto hne hG).1
    omega
  | succ j ih =>
    intro k fuel x π σ hj hf hG hK hO
    obtain ⟨f, rfl, hg⟩ := nw_fe hf
    have h24 := (nw_BtoA hW hfr hto hne hG).1
    obtain ⟨τ, D, g1, g2, g3⟩ := nw_addB hW hfr hto hG hK
    rw [f_X8_many_lp10, g1, nw_bd]
    rcases g3 with ⟨hD, x', π', hK', hG', hc'⟩ | ⟨hD, hK', hno⟩
    · rw [if_neg (show ¬ (1000000000 : Int32) ≤ nI D from nI_ge (b := 1000000000) hD (by omega)), nI_1]
      obtain ⟨ρ, T, m1, m2, m3⟩ := ih (k + 1) f x' π' τ (by omega) hg hG' hK' (fun i hi => by
        by_cases e : i = k + 1
        · rw [e]; exact ⟨_, x', π', hG', rfl⟩
        · exact hO i (by omega))
      exact ⟨ρ, T, m1, g2.trans m2, m3⟩
    · rw [if_pos (show (1000000000 : Int32) ≤ nI D from nI_le (a := 1000000000) (by omega) (by omega))]
      exact ⟨τ, k, rfl, g2, h24, hO, hno⟩
theorem nw_many (hW : nw_W N) (hfr : fr < nw_n N) (hto : to < nw_n N) (hne : fr ≠ to) {σ : jv_S} (hM : nw_M N σ) : ∃ τ T, f_X8_many σ (nI fr) (nI to) (jv_b ap) = some (nI T, τ) ∧ nw_f nw_pS σ τ ∧ T ≤ 24 ∧ (∀ i, i ≤ T → ∃ c, nw_OB N fr to ap i c) ∧ nw_NB N fr to ap T := by
  obtain ⟨τ, g1, g2, g3⟩ := nw_layB (ap := ap) hW hfr hto hM
  obtain ⟨ρ, T, m1, m2, m3⟩ := nw_manyB hW hfr hto hne 25 0 jv_fuel (fun _ => 0) (fun _ => 0) τ rfl (nw_fu (by omega)) nw_G0 g3 (fun i hi => by
    have : i = 0 := by omega
    rw [this]
    exact ⟨_, _, _, nw_G0, rfl⟩)
  refine ⟨ρ, T, ?_, g2.trans m2, m3⟩
  unfold f_X8_many
  rw [g1, nw_bd, show f_X8_many_lp10 (nI fr) (nI to) jv_fuel (0 : Int32) τ = _ from m1, nw_bd]
theorem nw_togB (hW : nw_W N) (hfr : fr < nw_n N) (hto : to < nw_n N) (hne : fr ≠ to) {tot : Nat} (ht : tot ≤ 4) : ∀ (j k fuel c : Nat) (x : Nat → Nat) (π : Nat → Int) (σ : jv_S), k + j = tot → j < fuel → nw_G (nw_tl N) (nw_hd N) (nw_cc N) (nw_uB N fr to ap) (2 * fr) (2 * to + 1) k x π → nw_KB N fr to ap (nw_JL N) x σ → nw_co (nw_cc N) x = (c : Int) →
    ∃ τ L z, f_X8_together_lp14 (nI fr) (nI to) (nI tot) fuel (nI c) (nI k) σ = some (nI L, z, τ) ∧ nw_f nw_pS σ τ ∧ L ≤ 1000000000 ∧ ((L < 1000000000 ∧ nw_OB N fr to ap tot (L : Int)) ∨ (L = 1000000000 ∧ ∃ k', k' < tot ∧ nw_NB N fr to ap k')) := by
  have hcb : ∀ (k c : Nat) (x : Nat → Nat) (π : Nat → Int), nw_G (nw_tl N) (nw_hd N) (nw_cc N) (nw_uB N fr to ap) (2 * fr) (2 * to + 1) k x π → nw_co (nw_cc N) x = (c : Int) → c ≤ 24000 := fun k c x π hG hc => by
    obtain ⟨_, x', h1, h2⟩ := nw_BtoA hW hfr hto hne hG
    have := (nw_co_b hW h1.1).2
    omega
  intro j
  induction j with
  | zero =>
    intro k fuel c x π σ hj hf hG hK hc
    obtain ⟨f, rfl⟩ := nw_f0 hf
    have hk : k = tot := by omega
    subst hk
    have hb := hcb _ _ _ _ hG hc
    exact ⟨σ, c, nI k, by rw [f_X8_together_lp14, if_pos (nI_le (Nat.le_refl _) (by omega))], nw_f.rfl, by omega, Or.inl ⟨by omega, x, π, hG, hc⟩⟩
  | succ j ih =>
    intro k fuel c x π σ hj hf hG hK hc
    obtain ⟨f, rfl, hg⟩ := nw_fe hf
    have hb := hcb _ _ _ _ hG hc
    obtain ⟨τ, D, g1, g2, g3⟩ := nw_addB hW hfr hto hG hK
    rw [f_X8_together_lp14, if_neg (nI_ge (by omega) (by omega)), if_neg (show ¬ (1000000000 : Int32) ≤ nI c from nI_ge (b := 1000000000) (by omega) (by omega)), g1, nw_bd, nI_add, nI_1]
    rcases g3 with ⟨hD, x', π', hK', hG', hc'⟩ | ⟨hD, hK', hno⟩
    · rw [if_neg (show ¬ nI D = (1000000000 : Int32) from fun h => by have := (nI_eq (b := 1000000000) (by omega) (by omega)).mp h; omega), nw_lt]
      obtain ⟨ρ, L, z, m1, m2, m3⟩ := ih (k + 1) f (c + D) x' π' τ (by omega) hg hG' hK' (by rw [hc', hc]; omega)
      exact ⟨ρ, L, z, m1, g2.trans m2, m3⟩
    · obtain ⟨fu, hfu⟩ : ∃ fu, f = fu + 1 := ⟨f - 1, by omega⟩
      rw [if_pos (show nI D = (1000000000 : Int32) by rw [hD]; rfl), nw_lt]
      refine ⟨τ, 1000000000, nI (k + 1), ?_, g2, Nat.le_refl _, Or.inr ⟨rfl, k, by omega, hno⟩⟩
      rw [hfu, f_X8_together_lp14]
      by_cases e : tot ≤ k + 1
      · rw [if_pos (nI_le e (by omega))]; rfl
      · rw [if_neg (nI_ge (by omega) (by omega)), if_pos (Int32.le_refl _)]; rfl
theorem nw_together (hW : nw_W N) (hfr : fr < nw_n N) (hto : to < nw_n N) (hne : fr ≠ to) {tot : Nat} (ht : tot ≤ 4) {σ : jv_S} (hM : nw_M N σ) : ∃ τ L, f_X8_together σ (nI fr) (nI to) (nI tot) (jv_b ap) = some (nI L, τ) ∧ nw_f nw_pS σ τ ∧ L ≤ 1000000000 ∧ ((L < 1000000000 ∧ nw_OB N fr to ap tot (L : Int)) ∨ (L = 1000000000 ∧ ∃ k', k' < tot ∧ nw_NB N fr to ap k')) := by
  obtain ⟨τ, g1, g2, g3⟩ := nw_layB (ap := ap) hW hfr hto hM
  obtain ⟨ρ, L, z, m1, m2, m3⟩ := nw_togB hW hfr hto hne ht tot 0 jv_fuel 0 (fun _ => 0) (fun _ => 0) τ (by omega) (nw_fu (by omega)) nw_G0 g3 nw_co0
  refine ⟨ρ, L, ?_, g2.trans m2, m3⟩
  unfold f_X8_together
  rw [g1, nw_bd, show f_X8_together_lp14 (nI fr) (nI to) (nI tot) jv_fuel (0 : Int32) (0 : Int32) τ = _ from m1, nw_bd]
/-! the two agree -/
theorem nw_NA_B (hW : nw_W N) (hfr : fr < nw_n N) (hto : to < nw_n N) (hne : fr ≠ to) {k i : Nat} {c : Int} (h : nw_NA N fr to ap k) (hB : nw_OB N fr to ap i c) : i ≤ k := by
  obtain ⟨y, π, hG, -⟩ := hB
  obtain ⟨_, x, hx, -⟩ := nw_BtoA hW hfr hto hne hG
  have := h x i hx
  omega
theorem nw_NB_A (hW : nw_W N) (hfr : fr < nw_n N) (hto : to < nw_n N) (hne : fr ≠ to) {k i : Nat} {c : Int} (hi : i ≤ 24) (h : nw_NB N fr to ap k) (hA : nw_OA N fr to ap i c) : i ≤ k := by
  obtain ⟨x, π, hG, -⟩ := hA
  have := h _ i (nw_AtoB hW hfr hto hne hi ⟨hG.1, hG.2.1⟩)
  omega
theorem nw_totEq (hW : nw_W N) (hfr : fr < nw_n N) (hto : to < nw_n N) (hne : fr ≠ to) {T T' : Nat} (hT : T ≤ 24) (hT' : T' ≤ 24) (h1 : ∀ i, i ≤ T → ∃ c, nw_OA N fr to ap i c) (h2 : T = 24 ∨ nw_NA N fr to ap T) (h3 : ∀ i, i ≤ T' → ∃ c, nw_OB N fr to ap i c) (h4 : nw_NB N fr to ap T') : T = T' := by
  obtain ⟨c, hc⟩ := h1 T (Nat.le_refl _)
  obtain ⟨c', hc'⟩ := h3 T' (Nat.le_refl _)
  have e1 := nw_NB_A hW hfr hto hne hT h4 hc
  rcases h2 with h2 | h2
  · omega
  · have e2 := nw_NA_B hW hfr hto hne h2 hc'
    omega
theorem nw_lenEq (hW : nw_W N) (hfr : fr < nw_n N) (hto : to < nw_n N) (hne : fr ≠ to) {tot L L' : Nat} (ht : tot ≤ 4) (hA : (L < 1000000000 ∧ nw_OA N fr to ap tot (L : Int)) ∨ (1000000000 ≤ L ∧ ∃ k', k' < tot ∧ nw_NA N fr to ap k')) (hB : (L' < 1000000000 ∧ nw_OB N fr to ap tot (L' : Int)) ∨ (L' = 1000000000 ∧ ∃ k', k' < tot ∧ nw_NB N fr to ap k')) : (L < 1000000000 ∧ L' = L) ∨ (1000000000 ≤ L ∧ L' = 1000000000) := by
  rcases hA with ⟨h1, h2⟩ | ⟨h1, k', h2, h3⟩
  · rcases hB with ⟨h4, h5⟩ | ⟨h4, k2, h5, h6⟩
    · obtain ⟨x, π, hG, hc⟩ := h2
      obtain ⟨y, π', hG', hc'⟩ := h5
      have := nw_same2 hW hfr hto hne hG hG'
      left
      omega
    · have := nw_NB_A hW hfr hto hne (by omega) h6 h2
      omega
  · rcases hB with ⟨h4, h5⟩ | ⟨h4, k2, h5, h6⟩
    · have := nw_NA_B hW hfr hto hne h3 h5
      omega
    · exact Or.inr ⟨h1, h4⟩
end NWZ
