/-! ===== the reference draws walks ===== -/
/-- its draw -/
def nw_RW (N : nw_N) (fr to drawn : Nat) (σ : jv_S) : Prop := σ.1 35 24 = nI fr ∧ σ.1 35 26 = nI drawn ∧ (∃ cnt ln, nw_RK cnt ln σ ∧ nw_R N to cnt ln [] ∧ drawn ≤ cnt fr) ∧ (drawn = 0 → σ.1 35 27 = nI 0) ∧ ∀ d, drawn = d + 1 → ∃ p, nw_ww N to p fr d ∧ p.length < 500 ∧ σ.1 35 27 = nI p.length ∧ nw_rw (σ.1 48) p
def nw_pV (k j : Nat) : Bool := (k == 35 && (j == 0 || j == 26 || j == 27)) || k == 48
theorem nw_pV_L {σ τ : jv_S} (h : nw_f nw_pL σ τ) : nw_f nw_pV σ τ := h.mono (fun k j h => by
  simp only [nw_pV, nw_pL, Bool.or_eq_true, Bool.and_eq_true, beq_iff_eq, Bool.or_eq_false_iff, Bool.and_eq_false_iff, beq_eq_false_iff_ne] at h ⊢
  omega)
theorem nw_pV_M (k j : Nat) (h : nw_pM k j = true) : nw_pV k j = false := by
  simp only [nw_pM, nw_pV, Bool.or_eq_true, Bool.and_eq_true, beq_iff_eq, Bool.or_eq_false_iff, Bool.and_eq_false_iff, beq_eq_false_iff_ne] at h ⊢
  omega
section NWV
variable {N : nw_N} {to : Nat}
theorem nw_lp72 {cnt : Nat → Nat} {ln : Nat → Nat → Nat} {σ : jv_S} (hR : nw_R N to cnt ln []) (hK : nw_RK cnt ln σ) {fr L drawn : Nat} (hfr : fr < 10) (h24 : σ.1 35 24 = nI fr) (h26 : σ.1 35 26 = nI drawn) (hd : drawn < cnt fr) (hat : nw_at N to fr drawn L) (hL : L < 2 ^ 30) : ∀ (k j fuel : Nat), j + k = drawn → k < fuel → ∃ z, f_X8_nextWalk_lp72 (nI L) fuel (nI (j - min j (nw_c N to fr L))) (nI j) σ = some (nI (drawn - nw_c N to fr L), z) := by
  intro k
  have h50 := (hR.1 fr hfr).1
  have hat1 := hat.1
  induction k with
  | zero =>
    intro j fuel hj hf
    obtain ⟨f, rfl⟩ := nw_f0 hf
    have hj : j = drawn := by omega
    subst hj
    exact ⟨nI j, by rw [f_X8_nextWalk_lp72, h26, if_pos (nI_le (Nat.le_refl _) (by omega)), Nat.min_eq_right hat1]⟩
  | succ k ih =>
    intro j fuel hj hf
    obtain ⟨f, rfl, hg⟩ := nw_fe hf
    have ha := (hR.1 fr hfr).2 j (by omega)
    rw [f_X8_nextWalk_lp72, h26, h24, if_neg (nI_ge (by omega) (by omega)), show (50 : Int32) = nI 50 from rfl, pk_mul, nI_add, nw_ck (by omega) (by omega), if_pos rfl, nI_clamp (by omega), hK.2 fr hfr j (by omega), nw_lt, nI_1]
    obtain ⟨z, hz⟩ := ih (j + 1) f (by omega) hg
    refine ⟨z, ?_⟩
    rw [← hz]
    refine congrArg (fun q => f_X8_nextWalk_lp72 (nI L) f q (nI (j + 1)) σ) ?_
    by_cases c : ln fr j = L
    · rw [if_pos (by rw [c])]
      rw [c] at ha
      have h1 := ha.1.1
      show nI _ + nI 1 = _
      rw [nI_add]
      congr 1
      omega
    · rw [if_neg (fun h2 => c ((nI_eq (by omega) (by omega)).mp h2))]
      show nI _ + nI 0 = _
      rw [nI_add, Nat.add_zero]
      congr 1
      have h1 : j < nw_c N to fr L := by
        by_cases c1 : j < nw_c N to fr L
        · exact c1
        · exact absurd (nw_at_uniq ha.1 ⟨by omega, by have := hat.2; omega⟩) c
      omega
theorem nw_rnext (hW : nw_W N) {σ : jv_S} (hM : nw_M N σ) {fr drawn : Nat} (hfr : fr < 10) (h23 : σ.1 35 23 = 1) (h : nw_RW N fr to drawn σ) (hd : drawn < 50) :
    (∀ p L, nw_ww N to p fr drawn → nw_at N to fr drawn L → p.length < 500 → ∃ τ, f_X8_nextWalk σ = some (nI L, τ) ∧ τ.1 35 0 = nI 0 ∧ nw_f nw_pV σ τ ∧ nw_RW N fr to (drawn + 1) τ) ∧
    ((∀ T, nw_c N to fr T ≤ drawn) → ∃ τ, f_X8_nextWalk σ = some (nI 0, τ) ∧ τ.1 35 0 = nI 2 ∧ nw_f nw_pV σ τ ∧ nw_RW N fr to drawn τ) := by
  obtain ⟨h24, h26, ⟨cnt, ln, hK, hR, hdc⟩, h0, hp⟩ := h
  have h50 := (hR.1 fr hfr).1
  refine ⟨fun p L hw hat hpl => ?_, fun hT => ?_⟩
  · have hdc2 := nw_rin hW hR hfr hd hat
    have hln := (hR.1 fr hfr).2 drawn hdc2
    have hLe := nw_at_uniq hat hln.1
    have hL : L ≤ 1201000 := by rw [hLe]; exact hln.2
    have hf0 : nw_f nw_pV σ (jv_si σ 35 0 (0 : Int32)) := nw_f.rfl.si (by rfl)
    have hK0 : nw_RK cnt ln (jv_si σ 35 0 (0 : Int32)) := ⟨by rw [nw_gn (by decide)]; exact hK.1, by rw [nw_gn (by decide)]; exact hK.2⟩
    have e24 : (jv_si σ 35 0 (0 : Int32)).1 35 24 = nI fr := by rw [nw_gj (by decide), h24]
    have e26 : (jv_si σ 35 0 (0 : Int32)).1 35 26 = nI drawn := by rw [nw_gj (by decide), h26]
    have e49 : (jv_si σ 35 0 (0 : Int32)).1 49 (50 * fr + drawn) = nI L := by rw [hK0.2 fr hfr drawn hdc2, hLe]
    obtain ⟨z, hz⟩ := nw_lp72 hR hK0 hfr e24 e26 hdc2 hat (by omega) drawn 0 jv_fuel (by omega) (nw_fu (by omega))
    have hf1 : nw_f nw_pV σ (jv_si (jv_si σ 35 0 (0 : Int32)) 35 27 (0 : Int32)) := hf0.si (by rfl)
    obtain ⟨τ, z1, z2, z3, g1, g2, g3, g4⟩ := nw_lay hW hR p [] fr drawn L jv_fuel (jv_si (jv_si σ 35 0 (0 : Int32)) 35 27 (0 : Int32)) hw hat hd hfr (nw_fu (by omega)) (hf1.keepM hM nw_pV_M) ⟨by rw [nw_gn (by decide)]; exact hK0.1, by rw [nw_gn (by decide)]; exact hK0.2⟩ (by intro i x hx; simp at hx) (by rw [nw_gs]; rfl) (by simp; omega)
    rw [List.nil_append] at g3 g4
    have hft := hf1.trans (nw_pV_L g2)
    have t26 : τ.1 35 26 = nI drawn := by rw [(g2 35 26 rfl).1, nw_gj (by decide), e26]
    have t24 : τ.1 35 24 = nI fr := by rw [(g2 35 24 rfl).1, nw_gj (by decide), e24]
    refine ⟨jv_si τ 35 26 (nI (drawn + 1)), ?_, by rw [nw_gj (by decide), (g2 35 0 rfl).1, nw_gj (by decide), nw_gs]; rfl, hft.si (by rfl), by rw [nw_gj (by decide), t24], nw_gs, ⟨cnt, ln, ?_, hR, hdc2⟩, fun h => by omega, fun d hd' => ⟨p, by rw [show d = drawn by omega]; exact hw, hpl, by rw [nw_gj (by decide), g4], by rw [nw_gn (by decide)]; exact g3⟩⟩
    · unfold f_X8_nextWalk
      rw [h23, if_neg (by decide), h26, if_neg (show ¬ nI drawn = (50 : Int32) from fun h => by have := (nI_eq (b := 50) (by omega) (by omega)).mp h; omega), h24, nw_ck hfr (by omega), if_pos rfl, nI_clamp (by omega), hK.1 fr hfr, if_neg (fun h => by have := (nI_eq (by omega) (by omega)).mp h; omega), nw_bd, nw_lt]
      unfold f_X8_holds
      rw [if_pos (show (0 : Int32) = 0 from rfl), nw_lt]
      simp only [if_true, e24, e26, show (50 : Int32) = nI 50 from rfl, pk_mul, nI_add]
      rw [nw_ck (by omega) (by omega), if_pos rfl, nI_clamp (by omega), e49, show f_X8_nextWalk_lp72 (nI L) jv_fuel (0 : Int32) (0 : Int32) (jv_si σ 35 0 (0 : Int32)) = _ from hz, nw_bd]
      unfold f_X8_laysWalk
      rw [e24, show f_X8_laysWalk_lp16 jv_fuel (nI fr) (nI L) (nI (drawn - nw_c N to fr L)) (jv_si (jv_si σ 35 0 (0 : Int32)) 35 27 (0 : Int32)) = _ from g1, nw_bd, nw_bd]
      simp only [t26, nI_1]
    · refine ⟨?_, ?_⟩
      · rw [nw_gn (by decide), (g2.lng (k := 50) (fun _ => rfl)).1, nw_gn (by decide)]; exact hK0.1
      · rw [nw_gn (by decide), (g2.lng (k := 49) (fun _ => rfl)).1, nw_gn (by decide)]; exact hK0.2
  · have hdc2 : drawn = cnt fr := by
      by_cases c : drawn < cnt fr
      · have := ((hR.1 fr hfr).2 drawn c).1.2
        have := hT (ln fr drawn + 1)
        omega
      · omega
    refine ⟨jv_si σ 35 0 (2 : Int32), ?_, by rw [nw_gs]; rfl, nw_f.rfl.si (by rfl), by rw [nw_gj (by decide), h24], by rw [nw_gj (by decide), h26], ⟨cnt, ln, ⟨by rw [nw_gn (by decide)]; exact hK.1, by rw [nw_gn (by decide)]; exact hK.2⟩, hR, hdc⟩, fun h => by rw [nw_gj (by decide)]; exact h0 h, fun d hd' => ?_⟩
    · unfold f_X8_nextWalk
      rw [h23, if_neg (by decide), h26, if_neg (show ¬ nI drawn = (50 : Int32) from fun h => by have := (nI_eq (b := 50) (by omega) (by omega)).mp h; omega), h24, nw_ck hfr (by omega), if_pos rfl, nI_clamp (by omega), hK.1 fr hfr, if_pos (by rw [hdc2]), nw_bd, nw_lt]
      unfold f_X8_holds
      rw [if_neg (show ¬ (2 : Int32) = 0 by decide), nw_lt]
      rfl
    · obtain ⟨p, q1, q2, q3, q4⟩ := hp d hd'
      exact ⟨p, q1, q2, by rw [nw_gj (by decide), q3], by rw [nw_gn (by decide)]; exact q4⟩
end NWV
