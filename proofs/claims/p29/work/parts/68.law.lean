/-! ===== the law ===== -/
noncomputable def nx_told (v4 q12 : Int32) (q13 : Int32 × jv_S) (ρ : jv_S) : Option (Bool × jv_S × jv_S) := (if q13.1 < 0 then (if (v4 - v4 / (3 : Int32) * (3 : Int32)) = (2 : Int32) then (jv_bd (f_L_areAlike (q13.2, ρ) (q12 >>> ((4 : Int32) &&& 31))) (fun q17 => if q17.1 = true then (some (true, q17.2)) else (some (false, q17.2)))) else (some (true, (q13.2, ρ)))) else (jv_bd (f_L_act ρ q12) (fun q19 => if q19.1 = q13.1 then (if (v4 - v4 / (3 : Int32) * (3 : Int32)) = (2 : Int32) then (jv_bd (f_L_areAlike (q13.2, q19.2) (q12 >>> ((4 : Int32) &&& 31))) (fun q22 => if q22.1 = true then (some (true, q22.2)) else (some (false, q22.2)))) else (some (true, (q13.2, q19.2)))) else (some (false, (q13.2, q19.2))))))
noncomputable def nx_tA (v4 x z : Int32) (q15 : Bool × jv_S × jv_S) : Option (Bool × jv_S × jv_S) := (if (v4 - v4 / (6 : Int32) * (6 : Int32)) = (1 : Int32) then (jv_bd (if q15.1 = true then (jv_bd (f_L_arePathsSo q15.2.1 x z) (fun q31 => if q31.1 = true then (jv_bd (f_L_arePathsSo q15.2.2 x z) (fun q33 => if q33.1 = true then (some (true, (q31.2, q33.2))) else (some (false, (q31.2, q33.2))))) else (some (false, (q31.2, q15.2.2))))) else (some (false, q15.2))) (fun q30 => some (q30.1, q30.2))) else (some (q15.1, q15.2)))
noncomputable def nx_tB (v4 q12 x z : Int32) (q28 : Bool × jv_S × jv_S) : Option (Bool × jv_S × jv_S) := (if (v4 - v4 / (6 : Int32) * (6 : Int32)) = (4 : Int32) then (jv_bd (if q28.1 = true then (jv_lt (if (q12 &&& (8 : Int32)) = 0 then (x) else (z)) (fun q40 => jv_bd (f_L_areWalksSo q28.2.1 x q40) (fun q41 => if q41.1 = true then (jv_lt (if (q12 &&& (8 : Int32)) = 0 then (x) else (z)) (fun q44 => jv_bd (f_L_areWalksSo q28.2.2 x q44) (fun q45 => if q45.1 = true then (jv_bd (f_L_areSetsSo q41.2 x z) (fun q47 => if q47.1 = true then (some (true, (q47.2, q45.2))) else (some (false, (q47.2, q45.2))))) else (some (false, (q41.2, q45.2)))))) else (some (false, (q41.2, q28.2.2)))))) else (some (false, q28.2))) (fun q38 => some (q38.1, q38.2))) else (some (q28.1, q28.2)))
theorem nx_lp69_s {Nn : Nat} {xs : Nat → Int32} {n : Nat} {v4 : Int32} {τ : jv_S × jv_S} : f_L_law_lp69 Nn xs (n + 1) true v4 τ = if (72 : Int32) ≤ v4 then (some (true, v4, τ)) else (if true = true then (jv_bd (f_L_cell Nn xs v4) (fun q12 => jv_bd (f_L_act τ.1 q12) (fun q13 => jv_bd (nx_told v4 q12 q13 τ.2) (fun q15 => jv_bd (f_L_low (q12 >>> ((7 : Int32) &&& 31)) (f_X7_nodes q15.2.1)) (fun q24 => jv_bd (f_L_low (q12 >>> ((2 : Int32) &&& 31)) ((f_X7_nodes q15.2.1) - (1 : Int32))) (fun q25 => if (f_X7_nodes q15.2.1) = 0 then none else (jv_bd (nx_tA v4 q24 (((q24 + (1 : Int32)) + q25) - ((q24 + (1 : Int32)) + q25) / (f_X7_nodes q15.2.1) * (f_X7_nodes q15.2.1)) q15) (fun q28 => jv_bd (nx_tB v4 q12 q24 (((q24 + (1 : Int32)) + q25) - ((q24 + (1 : Int32)) + q25) / (f_X7_nodes q15.2.1) * (f_X7_nodes q15.2.1)) q28) (fun q36 => f_L_law_lp69 Nn xs n q36.1 (v4 + (1 : Int32)) q36.2))))))))) else (some (true, v4, τ))) := by
  rw [f_L_law_lp69]
  rfl
section NXLAW
variable {p : nx_Pic} {σ ρ : jv_S}
theorem nx_toldok (h : nx_H p σ) (h' : nx_H p ρ) (v4 q12 : Int32) : ∃ a σ1 p' σ2 ρ2, f_L_act σ q12 = some (a, σ1) ∧ nx_told v4 q12 (a, σ1) ρ = some (true, (σ2, ρ2)) ∧ nx_H p' σ2 ∧ nx_H p' ρ2 := by
  obtain ⟨a, p', hneg, σ1, ρ1, g1, g2, k1, k2⟩ := nx_two_act h h' q12
  by_cases ca : a < 0
  · have hp := hneg ca
    subst hp
    by_cases c3 : (v4 - v4 / (3 : Int32) * (3 : Int32)) = (2 : Int32)
    · obtain ⟨σ2, ρ2, m1, m2, m3⟩ := nx_alike g2 h' (q12 >>> ((4 : Int32) &&& 31))
      refine ⟨a, σ1, _, σ2, ρ2, g1, ?_, m2, m3⟩
      unfold nx_told
      dsimp only
      rw [if_pos ca, if_pos c3, m1, nw_bd, if_pos rfl]
    · refine ⟨a, σ1, _, σ1, ρ, g1, ?_, g2, h'⟩
      unfold nx_told
      dsimp only
      rw [if_pos ca, if_neg c3]
  · by_cases c3 : (v4 - v4 / (3 : Int32) * (3 : Int32)) = (2 : Int32)
    · obtain ⟨σ2, ρ2, m1, m2, m3⟩ := nx_alike g2 k2 (q12 >>> ((4 : Int32) &&& 31))
      refine ⟨a, σ1, _, σ2, ρ2, g1, ?_, m2, m3⟩
      unfold nx_told
      dsimp only
      rw [if_neg ca, k1, nw_bd]
      dsimp only
      rw [if_pos rfl, if_pos c3, m1, nw_bd, if_pos rfl]
    · refine ⟨a, σ1, _, σ1, ρ1, g1, ?_, g2, k2⟩
      unfold nx_told
      dsimp only
      rw [if_neg ca, k1, nw_bd]
      dsimp only
      rw [if_pos rfl, if_neg c3]
theorem nx_tAok (h : nx_H p σ) (h' : nx_H p ρ) {u z : Nat} (hu : u < nw_n p.1) (hz : z < nw_n p.1) (hne : u ≠ z) (v4 : Int32) : ∃ p' σ' ρ', p'.1 = p.1 ∧ nx_tA v4 (nI u) (nI z) (true, (σ, ρ)) = some (true, (σ', ρ')) ∧ nx_H p' σ' ∧ nx_H p' ρ' := by
  unfold nx_tA
  dsimp only
  by_cases c : (v4 - v4 / (6 : Int32) * (6 : Int32)) = (1 : Int32)
  · obtain ⟨N, P, K⟩ := p
    obtain ⟨σ', g1, g2⟩ := nx_ps h hu hz hne
    obtain ⟨ρ', k1, k2⟩ := nx_ps h' hu hz hne
    refine ⟨_, σ', ρ', ?_, ?_, g2, k2⟩
    · rfl
    · rw [if_pos c, if_pos rfl, g1, nw_bd]
      dsimp only
      rw [if_pos rfl, k1, nw_bd]
      dsimp only
      rw [if_pos rfl, nw_bd]
  · exact ⟨p, σ, ρ, rfl, by rw [if_neg c], h, h'⟩
theorem nx_tBok (h : nx_H p σ) (h' : nx_H p ρ) {u z : Nat} (hu : u < nw_n p.1) (hz : z < nw_n p.1) (hne : u ≠ z) (v4 q12 : Int32) : ∃ p' σ' ρ', nx_tB v4 q12 (nI u) (nI z) (true, (σ, ρ)) = some (true, (σ', ρ')) ∧ nx_H p' σ' ∧ nx_H p' ρ' := by
  unfold nx_tB
  dsimp only
  by_cases c : (v4 - v4 / (6 : Int32) * (6 : Int32)) = (4 : Int32)
  · obtain ⟨N, P, K⟩ := p
    obtain ⟨w, hw, ew⟩ : ∃ w, w < nw_n N ∧ (if (q12 &&& (8 : Int32)) = 0 then nI u else nI z) = nI w := by
      by_cases c8 : (q12 &&& (8 : Int32)) = 0
      · exact ⟨u, hu, if_pos c8⟩
      · exact ⟨z, hz, if_neg c8⟩
    obtain ⟨kk, σ', e1, g1, g2⟩ := nx_ws h hu hw
    obtain ⟨kk', ρ', e2, k1, k2⟩ := nx_ws h' hu hw
    have := nx_Kk_u e1 e2
    subst this
    obtain ⟨σ2, m1, m2⟩ := nx_ss g2 hu hz hne
    refine ⟨_, σ2, ρ', ?_, m2, k2⟩
    rw [if_pos c, if_pos rfl, ew, nw_lt, g1, nw_bd]
    dsimp only
    rw [if_pos rfl, nw_lt, k1, nw_bd]
    dsimp only
    rw [if_pos rfl, m1, nw_bd]
    dsimp only
    rw [if_pos rfl, nw_bd]
  · exact ⟨p, σ, ρ, by rw [if_neg c], h, h'⟩
theorem nx_cell {Nn : Nat} {xs : Nat → Int32} (hN : Nn ≤ 260) {k : Nat} (hk : k ≤ 1000) : ∃ a, f_L_cell Nn xs (nI k) = some a := by
  unfold f_L_cell
  by_cases c : nI Nn ≤ nI k
  · exact ⟨_, if_pos c⟩
  · rw [if_neg c]
    have h1 : k < Nn := by
      by_cases c2 : k < Nn
      · exact c2
      · exact absurd (nI_le (show Nn ≤ k by omega) (by omega)) c
    have h2 : jv_ck (nI k) Nn = true := by
      unfold jv_ck
      rw [nI_toInt (by omega), decide_eq_true (by omega), decide_eq_true (by omega)]
      rfl
    exact ⟨_, if_pos h2⟩
theorem nx_lw {Nn : Nat} {xs : Nat → Int32} (hN : Nn ≤ 260) : ∀ (m k n : Nat) (p : nx_Pic) (σ ρ : jv_S), k + m = 72 → m < n → nx_H p σ → nx_H p ρ → ∃ p' σ' ρ', f_L_law_lp69 Nn xs n true (nI k) (σ, ρ) = some (true, nI 72, (σ', ρ')) ∧ nx_H p' σ' ∧ nx_H p' ρ' := by
  intro m
  induction m with
  | zero =>
    intro k n p σ ρ hk hn h h'
    obtain ⟨f, rfl⟩ := nw_f0 hn
    have : k = 72 := by omega
    subst this
    refine ⟨p, σ, ρ, ?_, h, h'⟩
    rw [nx_lp69_s, if_pos (show (72 : Int32) ≤ nI 72 from nI_le (a := 72) (by omega) (by omega))]
  | succ m ih =>
    intro k n p σ ρ hk hn h h'
    obtain ⟨f, rfl, hg⟩ := nw_fe hn
    obtain ⟨q12, hc⟩ := nx_cell (xs := xs) hN (show k ≤ 1000 by omega)
    obtain ⟨a, σ1, p1, σ2, ρ2, t1, t2, t3, t4⟩ := nx_toldok h h' (nI k) q12
    have hn1 := t3.1.1.n
    obtain ⟨u, hu, eu⟩ := nx_low (x := q12 >>> ((7 : Int32) &&& 31)) (k := nw_n p1.1) (by omega) (by omega)
    obtain ⟨w, hw, ew⟩ := nx_low (x := q12 >>> ((2 : Int32) &&& 31)) (k := nw_n p1.1 - 1) (by omega) (by omega)
    have hz1 : (u + 1 + w) % nw_n p1.1 < nw_n p1.1 := Nat.mod_lt _ (by omega)
    have hz2 : u ≠ (u + 1 + w) % nw_n p1.1 := by
      by_cases c : u + 1 + w < nw_n p1.1
      · rw [Nat.mod_eq_of_lt c]; omega
      · rw [Nat.mod_eq_sub_mod (by omega), Nat.mod_eq_of_lt (by omega)]; omega
    have ez : ((nI u + (1 : Int32)) + nI w) - ((nI u + (1 : Int32)) + nI w) / nI (nw_n p1.1) * nI (nw_n p1.1) = nI ((u + 1 + w) % nw_n p1.1) := by
      rw [nI_1, nI_add, pk_rem (by omega) (by omega) (by omega)]
    obtain ⟨p2, σ3, ρ3, f1, f2, f3, f4⟩ := nx_tAok t3 t4 hu hz1 hz2 (nI k)
    obtain ⟨p3, σ4, ρ4, d2, d3, d4⟩ := nx_tBok f3 f4 (by rw [f1]; exact hu) (by rw [f1]; exact hz1) hz2 (nI k) q12
    obtain ⟨p4, σ5, ρ5, b1, b2, b3⟩ := ih (k + 1) f p3 σ4 ρ4 (by omega) hg d3 d4
    refine ⟨p4, σ5, ρ5, ?_, b2, b3⟩
    rw [nx_lp69_s, if_neg (show ¬ (72 : Int32) ≤ nI k from nI_ge (b := 72) (by omega) (by omega)), if_pos rfl, hc, nw_bd]
    dsimp only
    rw [t1, nw_bd, t2, nw_bd]
    dsimp only
    rw [nx_nodes t3, eu, nw_bd, show nI (nw_n p1.1) - (1 : Int32) = nI (nw_n p1.1 - 1) from pk_sub (b := 1) (by omega), ew, nw_bd, if_neg (nI_ne0 (by omega) (by omega)), ez, f2, nw_bd, d2, nw_bd]
    dsimp only
    rw [nI_1, b1]
def nx_N0 : nw_N := ((2, 0), ((fun _ => 0), (fun _ => 0), (fun _ => 0)), (fun _ => false), (fun _ => false), (fun _ _ => false))
theorem nx_z0 : nx_H (nx_N0, none, none) (jv_si jv_z 1 6 (2 : Int32)) := by
  refine ⟨⟨⟨Nat.le_refl _, by decide, Nat.zero_le _, fun e he => absurd he (Nat.not_lt_zero _), fun _ _ => rfl⟩, ⟨?_, ?_, fun e he => absurd he (Nat.not_lt_zero _), fun e he => ?_, fun v hv => ?_, fun e he f hf => ?_⟩, ⟨fun v hv => ?_, fun v hv i x hx => ?_⟩, fun v hv => ?_⟩, ?_, ?_⟩
  · rw [nw_gs]; rfl
  · rw [nw_gj (by decide)]; rfl
  · rw [nw_gj (by decide)]; exact b_0 e
  · rw [nw_gj (by decide)]; exact b_0 v
  · rw [nw_gn (by decide)]; exact b_0 f
  · rw [nw_gn (by decide)]; rfl
  · exact absurd hx (by show ¬ ([] : List Nat)[i]? = some x; simp)
  · rw [nw_gn (by decide)]; rfl
  · show (jv_si jv_z 1 6 (2 : Int32)).1 0 7 = 0
    rw [nw_gn (by decide)]; rfl
  · show (jv_si jv_z 1 6 (2 : Int32)).1 0 8 = 0
    rw [nw_gn (by decide)]; rfl
theorem nx_ok {N : Nat} {xs : Nat → Int32} (hN : N ≤ 260) : ∃ τ, f_L_law N xs (jv_si jv_z 1 6 (2 : Int32), jv_si jv_z 1 6 (2 : Int32)) = some (true, τ) := by
  have h0 := nx_z0
  obtain ⟨c, hc⟩ := nx_cell (xs := xs) hN (show 0 ≤ 1000 by omega)
  have hc : f_L_cell N xs (0 : Int32) = some c := hc
  obtain ⟨r, hr, er⟩ := nx_low (x := c) (k := 6) (by omega) (by omega)
  have er : f_L_low c (6 : Int32) = some (nI r) := er
  have e3 : (3 : Int32) + nI r = nI (3 + r) := nI_add 3 r
  obtain ⟨a, p', hR, hD⟩ := nx_S0 (nI (3 + r)) (0 : Int32) h0
  rcases hR with ⟨n', -, -, -, rfl, -⟩ | ⟨hR, -⟩
  · obtain ⟨τ, g1, g2⟩ := hD _ h0
    have g1 : f_L_starts (jv_si jv_z 1 6 (2 : Int32)) (0 : Int32) (nI (3 + r)) (0 : Int32) = some ((1 : Int32), τ) := g1
    obtain ⟨p2, σ2, ρ2, m1, m2, m3⟩ := nx_lw (xs := xs) hN 71 1 72 p' τ τ rfl (by omega) g2 g2
    have m1 : f_L_law_lp69 N xs 72 true (1 : Int32) (τ, τ) = some (true, nI 72, (σ2, ρ2)) := m1
    obtain ⟨σ3, ρ3, k1, k2, k3⟩ := nx_alike m2 m3 (77 : Int32)
    refine ⟨(σ3, ρ3), ?_⟩
    unfold f_L_law
    dsimp only
    rw [hc, nw_bd, er, nw_bd, e3, g1, nw_bd]
    dsimp only
    rw [if_pos rfl, nw_bd, er, nw_bd, e3, g1, nw_bd]
    dsimp only
    rw [if_pos rfl, nw_bd]
    dsimp only
    rw [m1, nw_bd]
    dsimp only
    rw [if_pos rfl, k1, nw_bd, if_pos rfl, nw_bd]
  · exact absurd ⟨nI_le (a := 2) (by omega) (by omega), nI_le (b := 10) (by omega) (by omega)⟩ hR
end NXLAW
