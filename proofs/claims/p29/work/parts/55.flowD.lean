/-! ===== the class lays its arcs, and counts ===== -/
def nw_pT (k j : Nat) : Bool := (k == 24 && (j == 8 || j == 9)) || (k == 25 || k == 26 || k == 28 || k == 29 || k == 30 || k == 31) || (k == 27 && decide (j < 24))
theorem nw_pT_C (k j : Nat) (h : nw_pC k j = true) : nw_pT k j = false := by
  simp only [nw_pC, nw_pT, Bool.or_eq_true, Bool.and_eq_true, beq_iff_eq, Bool.or_eq_false_iff, Bool.and_eq_false_iff, beq_eq_false_iff_ne] at h ⊢
  omega
section NWJ
variable {N : nw_N} {fr to : Nat} {ap : Bool}
theorem nw_lay35 (hW : nw_W N) {a1 a2 a3 : Int32} : ∀ (k p fuel : Nat) (σ : jv_S), p + k = nw_pv N 10 → k < fuel → nw_C0 N σ → nw_C1 N σ → (∀ a, a < 34 → σ.1 28 a = nI (if a ∈ (nw_ol N 10).take p then 1 else 0)) → (∀ e ∈ (nw_ol N 10).take p, σ.1 25 e = nI (2 * nw_t N e + 1) ∧ σ.1 26 e = nI (2 * nw_e N e) ∧ σ.1 27 e = nI (nw_l N e)) →
    ∃ τ z, f_X1_layArcs_lp35 a1 a2 a3 fuel (nI p) σ = some (z, τ) ∧ nw_f (fun k j => (k == 25 || k == 26 || k == 28) || (k == 27 && decide (j < 24))) σ τ ∧ (∀ a, a < 34 → τ.1 28 a = nI (if a < nw_m N ∧ nw_us N a = true then 1 else 0)) ∧ ∀ e, e < nw_m N → nw_us N e = true → τ.1 25 e = nI (2 * nw_t N e + 1) ∧ τ.1 26 e = nI (2 * nw_e N e) ∧ τ.1 27 e = nI (nw_l N e) := by
  intro k
  have hn := hW.n
  have h4 := nw_pv_le (N := N) (v := 10)
  induction k with
  | zero =>
    intro p fuel σ hp hf hC hD h1 h2
    obtain ⟨f, rfl⟩ := nw_f0 hf
    have hp : p = nw_pv N 10 := by omega
    subst hp
    have hall : (nw_ol N 10).take (nw_pv N 10) = nw_ol N 10 := List.take_of_length_le (by rw [nw_ol_len]; exact Nat.le_refl _)
    rw [hall] at h1 h2
    refine ⟨σ, nI (nw_pv N 10), by rw [f_X1_layArcs_lp35, nw_tot hD, if_pos (nI_le (Nat.le_refl _) (by omega))], nw_f.rfl, fun a ha => ?_, fun e he hu => h2 e (nw_ol_mem.mpr ⟨he, (hW.e he).1, hu⟩)⟩
    rw [h1 a ha]
    by_cases c : a < nw_m N ∧ nw_us N a = true
    · rw [if_pos c, if_pos (nw_ol_mem.mpr ⟨c.1, (hW.e c.1).1, c.2⟩)]
    · rw [if_neg c, if_neg (fun h => c ⟨(nw_ol_mem.mp h).1, (nw_ol_mem.mp h).2.2⟩)]
  | succ k ih =>
    intro p fuel σ hp hf hC hD h1 h2
    obtain ⟨f, rfl, hg⟩ := nw_fe hf
    have hlt : p < (nw_ol N 10).length := by rw [nw_ol_len]; omega
    have hy : (nw_ol N 10)[p]? = some (nw_ol N 10)[p] := List.getElem?_eq_getElem hlt
    generalize hyy : (nw_ol N 10)[p] = y at hy
    obtain ⟨hym, hyt, hyu⟩ := nw_ol_mem.mp (List.mem_of_getElem? hy)
    have he := hW.e hym
    have htk : (nw_ol N 10).take (p + 1) = (nw_ol N 10).take p ++ [y] := by rw [← hyy]; exact (List.take_append_getElem hlt).symm
    have hf1 : nw_f (fun k j => (k == 25 || k == 26 || k == 28) || (k == 27 && decide (j < 24))) σ (jv_si (jv_si (jv_si (jv_si σ 25 y (nI (2 * nw_t N y + 1))) 26 y (nI (2 * nw_e N y))) 28 y (1 : Int32)) 27 y (nI (nw_l N y))) := (((nw_f.rfl.si (by rfl)).si (by rfl)).si (by rfl)).si (by simp; omega)
    have hPC : ∀ k j, nw_pC k j = true → ((k == 25 || k == 26 || k == 28) || (k == 27 && decide (j < 24))) = false := fun k j h => by
      simp only [nw_pC, Bool.or_eq_true, Bool.and_eq_true, beq_iff_eq, Bool.or_eq_false_iff, Bool.and_eq_false_iff, beq_eq_false_iff_ne] at h ⊢
      omega
    have hf3 : nw_f (fun k j => (k == 25 || k == 26 || k == 28) || (k == 27 && decide (j < 24))) σ (jv_si (jv_si (jv_si σ 25 y (nI (2 * nw_t N y + 1))) 26 y (nI (2 * nw_e N y))) 28 y (1 : Int32)) := ((nw_f.rfl.si (by rfl)).si (by rfl)).si (by rfl)
    have hdef : f_X1_layArc σ (nI y) (f_X1_pointBehind σ (nI (nw_t N y))) (f_X1_pointBefore σ (nI (nw_e N y))) (1 : Int32) = jv_si (jv_si (jv_si σ 25 y (nI (2 * nw_t N y + 1))) 26 y (nI (2 * nw_e N y))) 28 y (1 : Int32) := by
      unfold f_X1_layArc f_X1_pointBehind f_X1_pointBefore
      rw [show (2 : Int32) = nI 2 from rfl, pk_mul, pk_mul, nI_1, nw_wr (n := 34) (by omega) (by omega), nw_wr (n := 34) (by omega) (by omega), nw_wr (n := 34) (by omega) (by omega)]
    rw [f_X1_layArcs_lp35, nw_tot hD, if_neg (nI_ge (by omega) (by omega)), (nw_outa hW hD hy).1, nw_tail hW hC hym, nw_head hW hC hym, hdef, nw_lt, nw_len hW (hf3.keepC hC hPC) hym, nw_wr (n := 34) (by omega) (by omega), nI_1]
    obtain ⟨τ, z, g1, g2, g3, g4⟩ := ih (p + 1) f _ (by omega) hg (hf1.keepC hC hPC) (hf1.keepD hD (fun _ => rfl) (fun _ => rfl)) (fun a ha => by
      rw [nw_gn (by decide), htk]
      by_cases e : a = y
      · rw [e, nw_gs, if_pos (by simp)]; rfl
      · rw [nw_gj e, nw_gn (by decide), nw_gn (by decide), h1 a ha]
        by_cases c : a ∈ (nw_ol N 10).take p
        · rw [if_pos c, if_pos (List.mem_append_left _ c)]
        · rw [if_neg c, if_neg (fun h => by
            rcases List.mem_append.mp h with h | h
            · exact c h
            · exact e (List.mem_singleton.mp h))]) (fun e hem => by
      rw [htk] at hem
      by_cases c : e = y
      · rw [c]
        exact ⟨by rw [nw_gn (by decide), nw_gn (by decide), nw_gn (by decide), nw_gs], by rw [nw_gn (by decide), nw_gn (by decide), nw_gs], nw_gs⟩
      · have hm : e ∈ (nw_ol N 10).take p := by
          rcases List.mem_append.mp hem with h | h
          · exact h
          · exact absurd (List.mem_singleton.mp h) c
        obtain ⟨m1, m2, m3⟩ := h2 e hm
        exact ⟨by rw [nw_gn (by decide), nw_gn (by decide), nw_gn (by decide), nw_gj c, m1], by rw [nw_gn (by decide), nw_gn (by decide), nw_gj c, nw_gn (by decide), m2], by rw [nw_gj c, nw_gn (by decide), nw_gn (by decide), nw_gn (by decide), m3]⟩)
    exact ⟨τ, z, g1, hf1.trans g2, g3, g4⟩
theorem nw_lay116 {fr to : Nat} (hfr : fr < 10) (hto : to < 10) : ∀ (k v fuel : Nat) (σ : jv_S), v + k = 10 → k < fuel → (∀ w, w < v → σ.1 25 (24 + w) = nI (2 * w) ∧ σ.1 26 (24 + w) = nI (2 * w + 1) ∧ σ.1 28 (24 + w) = nI (if w = fr ∨ w = to then 0 else if ap = true then 1 else 24)) →
    ∃ τ z, f_X1_layArcs_lp116 (nI fr) (nI to) (jv_b ap) fuel (nI v) σ = some (z, τ) ∧ nw_f (fun k _ => k == 25 || k == 26 || k == 28) σ τ ∧ (∀ k a, a < 24 → τ.1 k a = σ.1 k a) ∧ ∀ w, w < 10 → τ.1 25 (24 + w) = nI (2 * w) ∧ τ.1 26 (24 + w) = nI (2 * w + 1) ∧ τ.1 28 (24 + w) = nI (if w = fr ∨ w = to then 0 else if ap = true then 1 else 24) := by
  intro k
  induction k with
  | zero =>
    intro v fuel σ hv hf h
    obtain ⟨f, rfl⟩ := nw_f0 hf
    have hv : v = 10 := by omega
    subst hv
    exact ⟨σ, nI 10, by rw [f_X1_layArcs_lp116, if_pos (show (10 : Int32) ≤ nI 10 from nI_le (Nat.le_refl _) (by omega))], nw_f.rfl, fun _ _ _ => rfl, h⟩
  | succ k ih =>
    intro v fuel σ hv hf h
    obtain ⟨f, rfl, hg⟩ := nw_fe hf
    have hroom : (if nI v = nI fr then ((0 : Int32)) else (if nI v = nI to then ((0 : Int32)) else (if jv_b ap = 0 then ((24 : Int32)) else ((1 : Int32))))) = nI (if v = fr ∨ v = to then 0 else if ap = true then 1 else 24) := by
      by_cases c1 : v = fr
      · rw [if_pos (show nI v = nI fr by rw [c1]), if_pos (show v = fr ∨ v = to from Or.inl c1)]; rfl
      · rw [if_neg (show ¬ nI v = nI fr from fun h => c1 ((nI_eq (by omega) (by omega)).mp h))]
        by_cases c2 : v = to
        · rw [if_pos (show nI v = nI to by rw [c2]), if_pos (show v = fr ∨ v = to from Or.inr c2)]; rfl
        · rw [if_neg (show ¬ nI v = nI to from fun h => c2 ((nI_eq (by omega) (by omega)).mp h)), if_neg (show ¬ (v = fr ∨ v = to) from fun h => by rcases h with h | h; exact c1 h; exact c2 h)]
          cases ap <;> rfl
    have hdef : ∀ r, f_X1_layArc σ ((24 : Int32) + nI v) (f_X1_pointBefore σ (nI v)) (f_X1_pointBehind σ (nI v)) r = jv_si (jv_si (jv_si σ 25 (24 + v) (nI (2 * v))) 26 (24 + v) (nI (2 * v + 1))) 28 (24 + v) r := fun r => by
      unfold f_X1_layArc f_X1_pointBehind f_X1_pointBefore
      rw [show (2 : Int32) = nI 2 from rfl, show (24 : Int32) = nI 24 from rfl, pk_mul, nI_add, nI_1, nw_wr (n := 34) (by omega) (by omega), nw_wr (n := 34) (by omega) (by omega), nw_wr (n := 34) (by omega) (by omega)]
    rw [f_X1_layArcs_lp116, if_neg (show ¬ (10 : Int32) ≤ nI v from nI_ge (b := 10) (by omega) (by omega)), hroom, nw_lt, hdef, nw_lt, nI_1]
    obtain ⟨τ, z, g1, g2, g3, g4⟩ := ih (v + 1) f (jv_si (jv_si (jv_si σ 25 (24 + v) (nI (2 * v))) 26 (24 + v) (nI (2 * v + 1))) 28 (24 + v) (nI (if v = fr ∨ v = to then 0 else if ap = true then 1 else 24))) (by omega) hg (fun w hw => by
      by_cases c : w = v
      · rw [c]
        exact ⟨by rw [nw_gn (by decide), nw_gn (by decide), nw_gs], by rw [nw_gn (by decide), nw_gs], nw_gs⟩
      · obtain ⟨m1, m2, m3⟩ := h w (by omega)
        exact ⟨by rw [nw_gj (by omega), nw_gj (by omega), nw_gj (by omega), m1], by rw [nw_gj (by omega), nw_gj (by omega), nw_gj (by omega), m2], by rw [nw_gj (by omega), nw_gj (by omega), nw_gj (by omega), m3]⟩)
    refine ⟨τ, z, g1, (((nw_f.rfl.si (by rfl)).si (by rfl)).si (by rfl)).trans g2, fun k a ha => ?_, g4⟩
    rw [g3 k a ha, nw_gj (by omega), nw_gj (by omega), nw_gj (by omega)]
theorem nw_layC (hW : nw_W N) (hfr : fr < nw_n N) (hto : to < nw_n N) {σ : jv_S} (hC : nw_C0 N σ) (hD : nw_C1 N σ) (h27 : ∀ v, v < 10 → σ.1 27 (24 + v) = nI 0) : ∃ τ, f_X1_layArcs σ (nI fr) (nI to) (jv_b ap) = some τ ∧ nw_f nw_pT σ τ ∧ nw_KA N fr to ap (fun _ => 0) τ := by
  have hn := hW.n
  have e1 : ∀ σ : jv_S, f_X1_pointBehind σ (nI fr) = nI (2 * fr + 1) := fun σ => by
    unfold f_X1_pointBehind
    rw [show (2 : Int32) = nI 2 from rfl, pk_mul, nI_1]
  have e2 : ∀ σ : jv_S, f_X1_pointBefore σ (nI to) = nI (2 * to) := fun σ => by
    unfold f_X1_pointBefore
    rw [show (2 : Int32) = nI 2 from rfl, pk_mul]
  have hf1 : nw_f nw_pT σ (jv_fl (jv_fl (jv_si (jv_si σ 24 8 (nI (2 * fr + 1))) 24 9 (nI (2 * to))) 29 34 (0 : Int32)) 28 34 (0 : Int32)) := (((nw_f.rfl.si (by rfl)).si (by rfl)).fl (fun _ => rfl)).fl (fun _ => rfl)
  obtain ⟨τ, z, g1, g2, g3, g4⟩ := nw_lay35 hW (a1 := nI fr) (a2 := nI to) (a3 := jv_b ap) (nw_pv N 10) 0 jv_fuel _ (by omega) (nw_fu (by have := nw_pv_le (N := N) (v := 10); omega)) (hf1.keepC hC nw_pT_C) (hf1.keepD hD (fun _ => rfl) (fun _ => rfl)) (fun a ha => by
    rw [nw_fl, if_pos ha]; simp; rfl) (fun e he => by simp at he)
  obtain ⟨ρ, z2, k1, k2, k3, k4⟩ := nw_lay116 (ap := ap) (fr := fr) (to := to) (by omega) (by omega) 10 0 jv_fuel τ rfl (nw_fu (by omega)) (fun w hw => by omega)
  have hft : nw_f nw_pT σ ρ := hf1.trans ((g2.mono (fun k j h => by
    simp only [nw_pT, Bool.or_eq_true, Bool.and_eq_true, beq_iff_eq, Bool.or_eq_false_iff, Bool.and_eq_false_iff, beq_eq_false_iff_ne, decide_eq_false_iff_not] at h ⊢
    omega)).trans (k2.mono (fun k j h => by
    simp only [nw_pT, Bool.or_eq_true, Bool.and_eq_true, beq_iff_eq, Bool.or_eq_false_iff, Bool.and_eq_false_iff, beq_eq_false_iff_ne] at h ⊢
    omega)))
  refine ⟨ρ, ?_, hft, ?_, ?_, fun a ha hu => ?_, fun a ha => ⟨?_, ?_⟩⟩
  · unfold f_X1_layArcs
    rw [e1, e2, show f_X1_layArcs_lp35 (nI fr) (nI to) (jv_b ap) jv_fuel (0 : Int32) _ = _ from g1, nw_bd, show f_X1_layArcs_lp116 (nI fr) (nI to) (jv_b ap) jv_fuel (0 : Int32) τ = _ from k1, nw_bd]
  · rw [(k2.lng (k := 24) (fun _ => rfl)).1, (g2.lng (k := 24) (fun _ => rfl)).1, nw_fln (by decide), nw_fln (by decide), nw_gj (by decide), nw_gs]
  · rw [(k2.lng (k := 24) (fun _ => rfl)).1, (g2.lng (k := 24) (fun _ => rfl)).1, nw_fln (by decide), nw_fln (by decide), nw_gs]
  · unfold nw_tl nw_hd
    by_cases c : a < 24
    · unfold nw_uA at hu
      rw [if_pos c] at hu
      have c2 : a < nw_m N ∧ nw_us N a = true := by
        by_cases c2 : a < nw_m N ∧ nw_us N a = true
        · exact c2
        · rw [if_neg c2] at hu; omega
      obtain ⟨m1, m2, m3⟩ := g4 a c2.1 c2.2
      rw [if_pos c, if_pos c, k3 _ a c, k3 _ a c, k3 _ a c]
      exact ⟨m1, m2, by unfold nw_cc; rw [if_pos c2]; exact m3⟩
    · obtain ⟨m1, m2, m3⟩ := k4 (a - 24) (by omega)
      rw [show 24 + (a - 24) = a by omega] at m1 m2
      rw [if_neg c, if_neg c, m1, m2]
      refine ⟨rfl, rfl, ?_⟩
      rw [nw_cc0 hW (by omega), (hft 27 a (by simp [nw_pT]; omega)).1]
      have := h27 (a - 24) (by omega)
      rw [show 24 + (a - 24) = a by omega] at this
      exact this
  · unfold nw_uA
    by_cases c : a < 24
    · rw [if_pos c, k3 _ a c, g3 a ha]
    · obtain ⟨m1, m2, m3⟩ := k4 (a - 24) (by omega)
      rw [show 24 + (a - 24) = a by omega] at m3
      rw [if_neg c, m3]
      congr 1
      by_cases c2 : a = 24 + fr ∨ a = 24 + to
      · rw [if_pos c2, if_pos (by omega)]
      · rw [if_neg c2, if_neg (by omega)]
  · rw [(k2.lng (k := 29) (fun _ => rfl)).1, (g2.lng (k := 29) (fun _ => rfl)).1, nw_fln (by decide), nw_fl, if_pos ha]
    rfl
/-- a cheapest flow of so many -/
def nw_OA (N : nw_N) (fr to : Nat) (ap : Bool) (k : Nat) (c : Int) : Prop := ∃ x π, nw_G (nw_tl N) (nw_hd N) (nw_cc N) (nw_uA N fr to ap) (2 * fr + 1) (2 * to) k x π ∧ nw_co (nw_cc N) x = c
def nw_NA (N : nw_N) (fr to : Nat) (ap : Bool) (k : Nat) : Prop := ∀ (y : Nat → Nat) (val : Int), nw_fe2 (nw_tl N) (nw_hd N) (nw_uA N fr to ap) (2 * fr + 1) (2 * to) val y → val ≤ (k : Int)
theorem nw_pQT {σ τ : jv_S} (h : nw_f nw_pQ2 σ τ) : nw_f nw_pT σ τ := h.mono (fun k j h => by
  simp only [nw_pT, nw_pQ2, Bool.or_eq_true, Bool.and_eq_true, beq_iff_eq, Bool.or_eq_false_iff, Bool.and_eq_false_iff, beq_eq_false_iff_ne] at h ⊢
  omega)
theorem nw_totC (hW : nw_W N) (hfr : fr < nw_n N) (hto : to < nw_n N) : ∀ (j k fuel : Nat) (x : Nat → Nat) (π : Nat → Int) (σ : jv_S), k + j = 24 → j < fuel → nw_G (nw_tl N) (nw_hd N) (nw_cc N) (nw_uA N fr to ap) (2 * fr + 1) (2 * to) k x π → nw_KA N fr to ap x σ → (∀ i, i ≤ k → ∃ c, nw_OA N fr to ap i c) →
    ∃ τ T, f_X1_pathTotal_lp10 fuel (nI k) σ = some (nI T, τ) ∧ nw_f nw_pT σ τ ∧ T ≤ 24 ∧ (∀ i, i ≤ T → ∃ c, nw_OA N fr to ap i c) ∧ (T = 24 ∨ nw_NA N fr to ap T) := by
  intro j
  induction j with
  | zero =>
    intro k fuel x π σ hj hf hG hK hO
    obtain ⟨f, rfl⟩ := nw_f0 hf
    have hk : k = 24 := by omega
    subst hk
    exact ⟨σ, 24, by rw [f_X1_pathTotal_lp10, if_pos (show (24 : Int32) ≤ nI 24 from nI_le (Nat.le_refl _) (by omega))], nw_f.rfl, Nat.le_refl _, hO, Or.inl rfl⟩
  | succ j ih =>
    intro k fuel x π σ hj hf hG hK hO
    obtain ⟨f, rfl, hg⟩ := nw_fe hf
    obtain ⟨τ, D, g1, g2, g3⟩ := nw_addC hW hfr hto hG hK
    rw [f_X1_pathTotal_lp10, if_neg (show ¬ (24 : Int32) ≤ nI k from nI_ge (b := 24) (by omega) (by omega)), g1, nw_bd]
    rcases g3 with ⟨hD, x', π', hK', hG', hc'⟩ | ⟨hD, hK', hno⟩
    · rw [if_neg (show ¬ (1000000000 : Int32) ≤ nI D from nI_ge (b := 1000000000) hD (by omega)), nI_1]
      obtain ⟨ρ, T, m1, m2, m3⟩ := ih (k + 1) f x' π' τ (by omega) hg hG' hK' (fun i hi => by
        by_cases e : i = k + 1
        · rw [e]; exact ⟨_, x', π', hG', rfl⟩
        · exact hO i (by omega))
      exact ⟨ρ, T, m1, (nw_pQT g2).trans m2, m3⟩
    · rw [if_pos (show (1000000000 : Int32) ≤ nI D from nI_le (a := 1000000000) (by omega) (by omega))]
      exact ⟨τ, k, rfl, nw_pQT g2, by omega, hO, Or.inr hno⟩
/-- the greatest number, as the class counts -/
theorem nw_pathTot (hW : nw_W N) (hfr : fr < nw_n N) (hto : to < nw_n N) {σ : jv_S} (hC : nw_C0 N σ) (hD : nw_C1 N σ) (h27 : ∀ v, v < 10 → σ.1 27 (24 + v) = nI 0) : ∃ τ T, f_X1_pathTotal σ (nI fr) (nI to) (jv_b ap) = some (nI T, τ) ∧ nw_f nw_pT σ τ ∧ T ≤ 24 ∧ (∀ i, i ≤ T → ∃ c, nw_OA N fr to ap i c) ∧ (T = 24 ∨ nw_NA N fr to ap T) := by
  obtain ⟨τ, g1, g2, g3⟩ := nw_layC (ap := ap) hW hfr hto hC hD h27
  obtain ⟨ρ, T, m1, m2, m3⟩ := nw_totC hW hfr hto 24 0 jv_fuel (fun _ => 0) (fun _ => 0) τ rfl (nw_fu (by omega)) nw_G0 g3 (fun i hi => by
    have : i = 0 := by omega
    rw [this]
    exact ⟨_, _, _, nw_G0, rfl⟩)
  refine ⟨ρ, T, ?_, g2.trans m2, m3⟩
  unfold f_X1_pathTotal
  rw [g1, nw_bd, show f_X1_pathTotal_lp10 jv_fuel (0 : Int32) τ = _ from m1, nw_bd]
theorem nw_co0 {c : Nat → Nat} : nw_co c (fun _ => 0) = 0 := by
  unfold nw_co
  rw [fl_S_congr (g := fun _ => 0) (fun a _ => by simp), fl_S_zero]
theorem nw_leastC (hW : nw_W N) (hfr : fr < nw_n N) (hto : to < nw_n N) {tot : Nat} (ht : tot ≤ 4) : ∀ (j k fuel c : Nat) (x : Nat → Nat) (π : Nat → Int) (σ : jv_S), k + j = tot → j < fuel → nw_G (nw_tl N) (nw_hd N) (nw_cc N) (nw_uA N fr to ap) (2 * fr + 1) (2 * to) k x π → nw_KA N fr to ap x σ → nw_co (nw_cc N) x = (c : Int) →
    ∃ τ L z, f_X1_leastLength_lp14 (nI tot) fuel (nI c) (nI k) σ = some (nI L, z, τ) ∧ nw_f nw_pT σ τ ∧ L ≤ 1000024000 ∧ ((L < 1000000000 ∧ nw_OA N fr to ap tot (L : Int)) ∨ (1000000000 ≤ L ∧ ∃ k', k' < tot ∧ nw_NA N fr to ap k')) := by
  intro j
  induction j with
  | zero =>
    intro k fuel c x π σ hj hf hG hK hc
    obtain ⟨f, rfl⟩ := nw_f0 hf
    have hk : k = tot := by omega
    subst hk
    have hb := nw_co_b hW hG.1
    exact ⟨σ, c, nI k, by rw [f_X1_leastLength_lp14, if_pos (nI_le (Nat.le_refl _) (by omega))], nw_f.rfl, by omega, Or.inl ⟨by omega, x, π, hG, hc⟩⟩
  | succ j ih =>
    intro k fuel c x π σ hj hf hG hK hc
    obtain ⟨f, rfl, hg⟩ := nw_fe hf
    have hb := nw_co_b hW hG.1
    obtain ⟨τ, D, g1, g2, g3⟩ := nw_addC hW hfr hto hG hK
    rw [f_X1_leastLength_lp14, if_neg (nI_ge (by omega) (by omega)), if_neg (show ¬ (1000000000 : Int32) ≤ nI c from nI_ge (b := 1000000000) (by omega) (by omega)), g1, nw_bd, nI_add, nI_1]
    rcases g3 with ⟨hD, x', π', hK', hG', hc'⟩ | ⟨hD, hK', hno⟩
    · obtain ⟨ρ, L, z, m1, m2, m3⟩ := ih (k + 1) f (c + D) x' π' τ (by omega) hg hG' hK' (by rw [hc', hc]; omega)
      exact ⟨ρ, L, z, m1, (nw_pQT g2).trans m2, m3⟩
    · obtain ⟨fu, hfu⟩ : ∃ fu, f = fu + 1 := ⟨f - 1, by omega⟩
      refine ⟨τ, c + D, nI (k + 1), ?_, nw_pQT g2, by omega, Or.inr ⟨by omega, k, by omega, hno⟩⟩
      rw [hfu, f_X1_leastLength_lp14]
      by_cases e : tot ≤ k + 1
      · rw [if_pos (nI_le e (by omega))]
      · rw [if_neg (nI_ge (by omega) (by omega)), if_pos (show (1000000000 : Int32) ≤ nI (c + D) from nI_le (a := 1000000000) (by omega) (by omega))]
theorem nw_leastL (hW : nw_W N) (hfr : fr < nw_n N) (hto : to < nw_n N) {tot : Nat} (ht : tot ≤ 4) {σ : jv_S} (hC : nw_C0 N σ) (hD : nw_C1 N σ) (h27 : ∀ v, v < 10 → σ.1 27 (24 + v) = nI 0) : ∃ τ L, f_X1_leastLength σ (nI fr) (nI to) (nI tot) (jv_b ap) = some (nI L, τ) ∧ nw_f nw_pT σ τ ∧ L ≤ 1000024000 ∧ ((L < 1000000000 ∧ nw_OA N fr to ap tot (L : Int)) ∨ (1000000000 ≤ L ∧ ∃ k', k' < tot ∧ nw_NA N fr to ap k')) := by
  obtain ⟨τ, g1, g2, g3⟩ := nw_layC (ap := ap) hW hfr hto hC hD h27
  obtain ⟨ρ, L, z, m1, m2, m3⟩ := nw_leastC hW hfr hto ht tot 0 jv_fuel 0 (fun _ => 0) (fun _ => 0) τ (by omega) (nw_fu (by omega)) nw_G0 g3 nw_co0
  refine ⟨ρ, L, ?_, g2.trans m2, m3⟩
  unfold f_X1_leastLength
  rw [g1, nw_bd, show f_X1_leastLength_lp14 (nI tot) jv_fuel (0 : Int32) (0 : Int32) τ = _ from m1, nw_bd]
end NWJ
