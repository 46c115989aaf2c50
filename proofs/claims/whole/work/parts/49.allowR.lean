/-! ===== allowed walks: the reference's rests ===== -/
def nw_r59 (n : Nat) (σ : jv_S) (x : Nat → Nat) : Prop := ∀ e, e < n → σ.1 59 e = nI (x e)
section NWB
variable {N : nw_N} {to : Nat}
theorem nw_may (hW : nw_W N) {σ : jv_S} (hM : nw_M N σ) {e f : Nat} (he : e < nw_m N) (hf : f < nw_m N) : f_X8_mayFollow σ (nI e) (nI f) = some (nw_us N f && (nw_t N f == nw_e N e) && !nw_fb N e f) := by
  have hb := hW.e he
  have hbf := hW.e hf
  have re := hM.2.2.1 e he
  have rf := hM.2.2.1 f hf
  unfold f_X8_mayFollow
  rw [nw_usM hW hM hf, nw_bd]
  cases hus : nw_us N f
  · rw [if_neg (by decide), nw_bd]; rfl
  · rw [if_pos rfl, nw_ck (by omega) (by omega), if_pos rfl, nw_ck (by omega) (by omega), if_pos rfl, nI_clamp (by omega), nI_clamp (by omega), rf.1, re.2.1]
    by_cases c : nw_t N f = nw_e N e
    · rw [if_pos (by rw [c]), show (24 : Int32) = nI 24 from rfl, pk_mul, nI_add, nw_ck (by omega) (by omega), if_pos rfl, nI_clamp (by omega), hM.2.2.2.2 e (by omega) f (by omega), c]
      cases nw_fb N e f <;> simp [jv_b, nw_bd]
    · rw [if_neg (fun h => c ((nI_eq (by omega) (by omega)).mp h)), nw_bd]
      simp [c]
theorem nw_fo_iff {e f : Nat} (hf : f < nw_m N) : (nw_us N f && (nw_t N f == nw_e N e) && !nw_fb N e f) = true ↔ nw_fo N e f := by
  unfold nw_fo
  simp only [Bool.and_eq_true, beq_iff_eq, Bool.not_eq_true']
  exact ⟨fun h => ⟨hf, h.1.1, h.1.2, h.2⟩, fun h => ⟨⟨h.2.1, h.2.2.1⟩, h.2.2.2⟩⟩
theorem nw_keepM9 {σ τ : jv_S} (h : nw_f (nw_r 59) σ τ) (hM : nw_M N σ) : nw_M N τ := h.keepM hM (fun k j hk => by
  simp only [nw_r, beq_eq_false_iff_ne]
  rintro rfl
  simp [nw_pM] at hk)
theorem nw_rl2 (hW : nw_W N) (hto : to < 10) : ∀ (k j fuel : Nat) (σ : jv_S), j + k = nw_m N → k < fuel → nw_M N σ → (∀ e, e < j → σ.1 59 e = nI (if nw_us N e = true ∧ nw_e N e = to then nw_l N e else 1000000000)) → ∃ τ z, f_X8_laysRests_lp2 (nI to) fuel (nI j) σ = some (z, τ) ∧ nw_f (nw_r 59) σ τ ∧ nw_r59 (nw_m N) τ (fun e => if nw_us N e = true ∧ nw_e N e = to then nw_l N e else 1000000000) := by
  intro k
  have hn := hW.n
  induction k with
  | zero =>
    intro j fuel σ hj hf hM h
    obtain ⟨f, rfl⟩ := nw_f0 hf
    have hj : j = nw_m N := by omega
    subst hj
    exact ⟨σ, nI (nw_m N), by rw [f_X8_laysRests_lp2, hM.2.1, if_pos (nI_le (Nat.le_refl _) (by omega))], nw_f.rfl, h⟩
  | succ k ih =>
    intro j fuel σ hj hf hM h
    obtain ⟨f, rfl, hg⟩ := nw_fe hf
    have hjm : j < nw_m N := by omega
    have hb := hW.e hjm
    have hr := hM.2.2.1 j hjm
    rw [f_X8_laysRests_lp2, hM.2.1, if_neg (nI_ge (by omega) (by omega)), nw_usM hW hM hjm, nw_bd, nw_ck (by omega) (by omega), nI_clamp (by omega), hr.2.1, hr.2.2.1, nI_1]
    simp only [if_true]
    have hv : (if nw_us N j = true then (if nI (nw_e N j) = nI to then some (nI (nw_l N j)) else some (1000000000 : Int32)) else some (1000000000 : Int32)) = some (nI (if nw_us N j = true ∧ nw_e N j = to then nw_l N j else 1000000000)) := by
      by_cases c1 : nw_us N j = true
      · rw [if_pos c1]
        by_cases c2 : nw_e N j = to
        · rw [if_pos (by rw [c2]), if_pos ⟨c1, c2⟩]
        · rw [if_neg (fun h => c2 ((nI_eq (by omega) (by omega)).mp h)), if_neg (fun h => c2 h.2)]; rfl
      · rw [if_neg c1, if_neg (fun h => c1 h.1)]; rfl
    rw [hv, nw_bd]
    obtain ⟨τ, z, g1, g2, g3⟩ := ih (j + 1) f (jv_si σ 59 j (nI (if nw_us N j = true ∧ nw_e N j = to then nw_l N j else 1000000000))) (by omega) hg (nw_keepM9 (nw_f.rfl.si nw_r_t) hM) (fun e he => by
      by_cases c : e = j
      · subst c; rw [nw_gs]
      · rw [nw_gj c]; exact h e (by omega))
    exact ⟨τ, z, g1, (nw_f.rfl.si nw_r_t).trans g2, g3⟩
theorem nw_rl74 (hW : nw_W N) {a2 : Int32} {e : Nat} (he : e < nw_m N) : ∀ (k j fuel : Nat) (σ : jv_S) (x : Nat → Nat), j + k = nw_m N → k < fuel → nw_M N σ → nw_r59 (nw_m N) σ x → (∀ e, x e ≤ 1000000000) → bf_V (nw_bb N to) (nw_ba2 N) (nw_m N) 1000000000 x →
    ∃ τ z x', f_X8_laysRests_lp74 a2 (nI e) fuel (nI j) σ = some (z, τ) ∧ nw_f (nw_r 59) σ τ ∧ nw_r59 (nw_m N) τ x' ∧ bf_V (nw_bb N to) (nw_ba2 N) (nw_m N) 1000000000 x' ∧ (∀ v, x' v ≤ x v) ∧ (nw_us N e = true → ∀ f, j ≤ f → nw_fo N e f → x' e ≤ nw_l N e + x f) := by
  intro k
  have hn := hW.n
  have hb := hW.e he
  have re := hW.n
  induction k with
  | zero =>
    intro j fuel σ x hj hf hM hr hxb hV
    obtain ⟨f, rfl⟩ := nw_f0 hf
    have hj : j = nw_m N := by omega
    subst hj
    exact ⟨σ, nI (nw_m N), x, by rw [f_X8_laysRests_lp74, hM.2.1, if_pos (nI_le (Nat.le_refl _) (by omega))], nw_f.rfl, hr, hV, fun _ => Nat.le_refl _, fun _ f h1 h2 => by have := h2.1; omega⟩
  | succ k ih =>
    intro j fuel σ x hj hf hM hr hxb hV
    obtain ⟨fu, rfl, hg⟩ := nw_fe hf
    have hjm : j < nw_m N := by omega
    have hbj := hW.e hjm
    have hre := hM.2.2.1 e he
    have hxj := hxb j
    have hxe := hxb e
    rw [f_X8_laysRests_lp74, hM.2.1, if_neg (nI_ge (by omega) (by omega)), nw_usM hW hM he, nw_bd, nw_may hW hM he hjm, nI_1]
    simp only [nw_ck (show j < 24 by omega) (by omega), nw_ck (show e < 24 by omega) (by omega), nI_clamp (show j < 2 ^ 31 by omega), nI_clamp (show e < 2 ^ 31 by omega), hr j hjm, hr e he, hre.2.2.1, nI_add, if_true, nw_bd]
    have hkeep : (nw_us N e = true → nw_fo N e j → x e ≤ nw_l N e + x j) → ∃ τ z x', f_X8_laysRests_lp74 a2 (nI e) fu (nI (j + 1)) σ = some (z, τ) ∧ nw_f (nw_r 59) σ τ ∧ nw_r59 (nw_m N) τ x' ∧ bf_V (nw_bb N to) (nw_ba2 N) (nw_m N) 1000000000 x' ∧ (∀ v, x' v ≤ x v) ∧ (nw_us N e = true → ∀ f, j ≤ f → nw_fo N e f → x' e ≤ nw_l N e + x f) := fun hc => by
      obtain ⟨τ, z, x', g1, g2, g3, g4, g5, g6⟩ := ih (j + 1) fu σ x (by omega) hg hM hr hxb hV
      refine ⟨τ, z, x', g1, g2, g3, g4, g5, fun hu f h1 h2 => ?_⟩
      by_cases c : f = j
      · subst c
        exact Nat.le_trans (g5 e) (hc hu h2)
      · exact g6 hu f (by omega) h2
    cases hu : nw_us N e
    · rw [if_neg (by decide), nw_bd]
      have := hkeep (fun h => by rw [hu] at h; cases h)
      rw [hu] at this
      exact this
    · rw [if_pos rfl]
      rw [hu] at hkeep
      by_cases c1 : (nw_us N j && (nw_t N j == nw_e N e) && !nw_fb N e j) = true
      · rw [if_pos c1]
        have hfo := (nw_fo_iff hjm).mp c1
        by_cases c2 : x e ≤ x j + nw_l N e
        · rw [if_pos (nI_le c2 (by omega)), nw_bd]
          exact hkeep (fun _ _ => by omega)
        · rw [if_neg (nI_ge (by omega) (by omega)), nw_bd]
          have hf1 : nw_f (nw_r 59) σ (jv_si σ 59 e (nI (x j + nw_l N e))) := nw_f.rfl.si nw_r_t
          obtain ⟨τ, z, x', g1, g2, g3, g4, g5, g6⟩ := ih (j + 1) fu (jv_si σ 59 e (nI (x j + nw_l N e))) (nw_u1 x e (x j + nw_l N e)) (by omega) hg (nw_keepM9 hf1 hM) (fun g hgm => by
              by_cases c : g = e
              · subst c; rw [nw_gs, nw_u1s]
              · rw [nw_gj c, nw_u1n c, hr g hgm]) (fun g => by
              by_cases c : g = e
              · subst c; rw [nw_u1s]; omega
              · rw [nw_u1n c]; exact hxb g) (fun g hgm => by
              by_cases c : g = e
              · subst c
                rw [nw_u1s]
                obtain ⟨h, hR⟩ := (hV j hjm).2 (by omega)
                refine ⟨by omega, fun _ => ⟨h + 1, ?_⟩⟩
                rw [Nat.add_comm (x j)]
                exact bf_R.step ⟨he, hu, hfo, rfl⟩ hR
              · rw [nw_u1n c]; exact hV g hgm)
          have hle2 : ∀ v, nw_u1 x e (x j + nw_l N e) v ≤ x v := fun v => by
            by_cases c : v = e
            · subst c; rw [nw_u1s]; omega
            · rw [nw_u1n c]; exact Nat.le_refl _
          refine ⟨τ, z, x', g1, hf1.trans g2, g3, g4, fun v => Nat.le_trans (g5 v) (hle2 v), fun _ f h1 h2 => ?_⟩
          by_cases c : f = j
          · subst c
            have := g5 e
            rw [nw_u1s] at this
            omega
          · have h3 := g6 hu f (by omega) h2
            have h4 := hle2 f
            omega
      · rw [if_neg c1, nw_bd]
        exact hkeep (fun _ h => absurd ((nw_fo_iff hjm).mpr h) c1)
theorem nw_rl63 (hW : nw_W N) {a2 : Int32} : ∀ (k j fuel : Nat) (σ : jv_S) (x : Nat → Nat), j + k = nw_m N → k < fuel → nw_M N σ → nw_r59 (nw_m N) σ x → bf_V (nw_bb N to) (nw_ba2 N) (nw_m N) 1000000000 x → (∀ e, x e ≤ 1000000000) →
    ∃ τ z x', f_X8_laysRests_lp63 a2 fuel (nI j) σ = some (z, τ) ∧ nw_f (nw_r 59) σ τ ∧ nw_r59 (nw_m N) τ x' ∧ bf_V (nw_bb N to) (nw_ba2 N) (nw_m N) 1000000000 x' ∧ (∀ v, x' v ≤ x v) ∧ (∀ e, j ≤ e → e < nw_m N → nw_us N e = true → ∀ f, nw_fo N e f → x' e ≤ nw_l N e + x f) := by
  intro k
  have hn := hW.n
  induction k with
  | zero =>
    intro j fuel σ x hj hf hM hr hV hxb
    obtain ⟨f, rfl⟩ := nw_f0 hf
    have hj : j = nw_m N := by omega
    subst hj
    exact ⟨σ, nI (nw_m N), x, by rw [f_X8_laysRests_lp63, hM.2.1, if_pos (nI_le (Nat.le_refl _) (by omega))], nw_f.rfl, hr, hV, fun _ => Nat.le_refl _, fun e h1 h2 => by omega⟩
  | succ k ih =>
    intro j fuel σ x hj hf hM hr hV hxb
    obtain ⟨f, rfl, hg⟩ := nw_fe hf
    rw [f_X8_laysRests_lp63, hM.2.1, if_neg (nI_ge (by omega) (by omega)), nI_1]
    obtain ⟨τ, z, x', g1, g2, g3, g4, g5, g6⟩ := nw_rl74 hW (a2 := a2) (e := j) (by omega) (nw_m N) 0 jv_fuel σ x (by omega) (nw_fu (by omega)) hM hr hxb hV
    rw [show f_X8_laysRests_lp74 a2 (nI j) jv_fuel (0 : Int32) σ = _ from g1, nw_bd]
    obtain ⟨ρ, z2, x2, k1, k2, k3, k4, k5, k6⟩ := ih (j + 1) f τ x' (by omega) hg (nw_keepM9 g2 hM) g3 g4 (fun e => Nat.le_trans (g5 e) (hxb e))
    refine ⟨ρ, z2, x2, k1, g2.trans k2, k3, k4, fun v => Nat.le_trans (k5 v) (g5 v), fun e h1 h2 hu f hfo => ?_⟩
    by_cases c : e = j
    · subst c
      exact Nat.le_trans (k5 e) (g6 hu f (by omega) hfo)
    · have h3 := k6 e (by omega) h2 hu f hfo
      have h4 := g5 f
      omega
theorem nw_rl53 (hW : nw_W N) : ∀ (k r fuel : Nat) (σ : jv_S) (x : Nat → Nat), r + k = nw_m N → k < fuel → nw_M N σ → nw_r59 (nw_m N) σ x → bf_V (nw_bb N to) (nw_ba2 N) (nw_m N) 1000000000 x → (∀ e, x e ≤ 1000000000) → (∀ i L, i < nw_m N → nw_bb N to i L → x i ≤ L) → bf_S (nw_bb N to) (nw_ba2 N) (nw_m N) x r →
    ∃ τ z x', f_X8_laysRests_lp53 fuel (nI r) σ = some (z, τ) ∧ nw_f (nw_r 59) σ τ ∧ nw_r59 (nw_m N) τ x' ∧ nw_ad N to (nw_m N) x' := by
  intro k
  have hn := hW.n
  induction k with
  | zero =>
    intro r fuel σ x hr hf hM hp hV hxb hB hS
    obtain ⟨f, rfl⟩ := nw_f0 hf
    exact ⟨σ, nI r, x, by rw [f_X8_laysRests_lp53, hM.2.1, if_pos (nI_le (by omega) (by omega))], nw_f.rfl, hp, hV, bf_top hS (by omega)⟩
  | succ k ih =>
    intro r fuel σ x hr hf hM hp hV hxb hB hS
    obtain ⟨f, rfl, hg⟩ := nw_fe hf
    rw [f_X8_laysRests_lp53, hM.2.1, if_neg (nI_ge (by omega) (by omega)), nI_1]
    obtain ⟨τ, z, x', g1, g2, g3, g4, g5, g6⟩ := nw_rl63 hW (a2 := nI r) (nw_m N) 0 jv_fuel σ x (by omega) (nw_fu (by omega)) hM hp hV hxb
    rw [show f_X8_laysRests_lp63 (nI r) jv_fuel (0 : Int32) σ = _ from g1, nw_bd]
    obtain ⟨ρ, z2, x2, k1, k2, k3, k4⟩ := ih (r + 1) f τ x' (by omega) hg (nw_keepM9 g2 hM) g3 g4 (fun e => Nat.le_trans (g5 e) (hxb e)) (fun i L hi hb => Nat.le_trans (g5 i) (hB i L hi hb)) (bf_S1 hS (fun i _ => g5 i) hB (by
      rintro i w j hi ⟨h1, h2, h3, rfl⟩
      exact ⟨h3.1, g6 i (by omega) h1 h2 j h3⟩))
    exact ⟨ρ, z2, x2, k1, g2.trans k2, k3, k4⟩
theorem nw_rests (hW : nw_W N) (hto : to < 10) {σ : jv_S} (hM : nw_M N σ) : ∃ τ x, f_X8_laysRests σ (nI to) = some τ ∧ nw_f (nw_r 59) σ τ ∧ nw_r59 (nw_m N) τ x ∧ nw_ad N to (nw_m N) x := by
  have hn := hW.n
  obtain ⟨τ, z, g1, g2, g3⟩ := nw_rl2 hW hto (nw_m N) 0 jv_fuel σ (by omega) (nw_fu (by omega)) hM (fun e he => by omega)
  have hx0 : ∀ e, e < nw_m N → (if e < nw_m N then (if nw_us N e = true ∧ nw_e N e = to then nw_l N e else 1000000000) else 0) = if nw_us N e = true ∧ nw_e N e = to then nw_l N e else 1000000000 := fun e he => if_pos he
  have hbase : ∀ i L, i < nw_m N → nw_bb N to i L → (fun e => if e < nw_m N then (if nw_us N e = true ∧ nw_e N e = to then nw_l N e else 1000000000) else 0) i ≤ L := by
    rintro i L hi ⟨h1, h2, h3, rfl⟩
    show (if i < nw_m N then _ else 0) ≤ _
    rw [hx0 i hi, if_pos ⟨h2, h3⟩]
    exact Nat.le_refl _
  obtain ⟨ρ, z2, x, k1, k2, k3, k4⟩ := nw_rl53 (to := to) hW (nw_m N) 0 jv_fuel τ (fun e => if e < nw_m N then (if nw_us N e = true ∧ nw_e N e = to then nw_l N e else 1000000000) else 0) (by omega) (nw_fu (by omega)) (nw_keepM9 g2 hM) (fun e he => by
      show τ.1 59 e = nI (if e < nw_m N then _ else 0)
      rw [g3 e he, hx0 e he]) (fun e he => by
      show (if e < nw_m N then _ else 0) ≤ _ ∧ ((if e < nw_m N then _ else 0) < _ → ∃ h, bf_R _ _ e h (if e < nw_m N then _ else 0))
      rw [hx0 e he]
      by_cases c : nw_us N e = true ∧ nw_e N e = to
      · rw [if_pos c]
        have := hW.e he
        exact ⟨by omega, fun _ => ⟨0, bf_R.base ⟨he, c.1, c.2, rfl⟩⟩⟩
      · rw [if_neg c]
        exact ⟨Nat.le_refl _, fun h => absurd h (Nat.lt_irrefl _)⟩) (fun e => by
      show (if e < nw_m N then _ else 0) ≤ _
      by_cases c : e < nw_m N
      · rw [hx0 e c]
        have := hW.e c
        split <;> omega
      · rw [if_neg c]; omega) hbase (bf_S0 hbase (fun i w j _ h => h.2.2.1.1))
  refine ⟨ρ, x, ?_, g2.trans k2, k3, k4⟩
  unfold f_X8_laysRests
  rw [show f_X8_laysRests_lp2 (nI to) jv_fuel (0 : Int32) σ = _ from g1, nw_bd, show f_X8_laysRests_lp53 jv_fuel (0 : Int32) τ = _ from k1, nw_bd]
end NWB
