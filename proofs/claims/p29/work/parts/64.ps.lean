/-! ===== arePathsSo ===== -/
section NXPS
variable {N : nw_N} {K : Option (Nat × Nat × Nat)} {i j : Nat}
theorem nx_apf (hW : nw_W N) {q : List Nat} (hq : q ∈ nw_ap N i j) : nw_key N q / 2 ^ 45 = nw_sl N q ∧ (∀ e ∈ q, e < 24) ∧ (∀ e ∈ q, e < nw_m N) ∧ 0 < q.length ∧ q.length ≤ 9 ∧ nw_sl N q ≤ 9000 := by
  have hgm := nw_gm_ap hW (fr := i) (to := j)
  have hn := hW.n
  obtain ⟨p1, p2, p3⟩ := hgm.1.2 q hq
  have hb := nw_key_b hW p1 (hgm.2 q hq)
  exact ⟨hb.2.1, fun e he => by have := hgm.2 q hq e he; omega, hgm.2 q hq, p2, p1, hb.2.2⟩
theorem nx_kle (hW : nw_W N) {k : Nat} {q' q : List Nat} (h' : nx_kth N i j k q') (h : nx_kth N i j (k + 1) q) : nw_sl N q' ≤ nw_sl N q := by
  by_cases c : nw_key N q < nw_key N q'
  · have h1 := nx_rank_lt h'.1 c
    have h2 := h.2
    have h3 := h'.2
    omega
  · rw [← (nx_apf hW h'.1).1, ← (nx_apf hW h.1).1]
    exact Nat.div_le_div_right (by omega)
theorem nx_cge (hW : nw_W N) {k : Nat} {q : List Nat} (h : nx_kth N i j k q) : k < (nw_ap N i j).countP (fun x => decide (nw_sl N x ≤ nw_sl N q)) := by
  have h1 := nx_cadd (A := fun z => decide (nw_key N z ≤ nw_key N q)) (B := fun _ => false) (C := fun x => decide (nw_sl N x ≤ nw_sl N q)) (nw_ap N i j) (fun x hx hx' => by
    simp only [decide_eq_true_eq] at hx' ⊢
    rw [← (nx_apf hW hx).1, ← (nx_apf hW h.1).1]
    exact Nat.div_le_div_right hx') (fun x _ hx => by cases hx) (fun x _ hx => by cases hx.2)
  have h2 : nx_rank N i j (nw_key N q) = k + 1 := h.2
  unfold nx_rank at h2
  omega
theorem nx_cle (hW : nw_W N) {k : Nat} {q : List Nat} (h : nx_kth N i j k q) (hl : 0 < nw_sl N q) : (nw_ap N i j).countP (fun x => decide (nw_sl N x ≤ nw_sl N q - 1)) ≤ k := by
  have h1 := nx_cadd (A := fun x => decide (nw_sl N x ≤ nw_sl N q - 1)) (B := fun x => decide (x = q)) (C := fun z => decide (nw_key N z ≤ nw_key N q)) (nw_ap N i j) (fun x hx hx' => by
    simp only [decide_eq_true_eq] at hx' ⊢
    exact Nat.le_of_lt (nw_key_sl (by omega) (nx_apf hW hx).2.1)) (fun x _ hx => by
    simp only [decide_eq_true_eq] at hx ⊢
    rw [hx]; exact Nat.le_refl _) (fun x _ hx => by
    simp only [decide_eq_true_eq] at hx
    rw [hx.2] at hx
    omega)
  have h2 : nx_rank N i j (nw_key N q) = k + 1 := h.2
  have h3 : 0 < (nw_ap N i j).countP (fun z => decide (z = q)) := List.countP_pos_iff.mpr ⟨q, h.1, by simp⟩
  unfold nx_rank at h2
  omega
theorem nx_slp (hW : nw_W N) {q : List Nat} (hq : q ∈ nw_ap N i j) : 0 < nw_sl N q := by
  have h1 := nx_apf hW hq
  have h2 := nx_sl1 hW q h1.2.2.1
  omega
/-- the first one is as long as the distance -/
theorem nx_first (hW : nw_W N) (hi : i < nw_n N) (hj : j < nw_n N) (hne : i ≠ j) {x : Nat → Nat} (hx : nw_ds N j x) {q : List Nat} (h : nx_kth N i j 0 q) : nw_sl N q = x i ∧ x i < 1000000000 := by
  have hn := hW.n
  have h1 := nx_apge hW (show i < 10 by omega) hx h.1
  have h2 : x i < 1000000000 := by omega
  obtain ⟨q', g1, g2⟩ := nx_apsp hW (show i < 10 by omega) (show j < 10 by omega) hne hx h2
  refine ⟨?_, h2⟩
  by_cases c : nw_sl N q' < nw_sl N q
  · have h3 := nx_rank_lt h.1 (nw_key_sl (N := N) c (nx_apf hW g1).2.1)
    have h4 : 0 < nx_rank N i j (nw_key N q') := by
      unfold nx_rank
      exact List.countP_pos_iff.mpr ⟨q', g1, by simp⟩
    have h5 := h.2
    omega
  · omega
theorem nx_nop (hW : nw_W N) (hi : i < nw_n N) (hj : j < nw_n N) (hne : i ≠ j) {x : Nat → Nat} (hx : nw_ds N j x) (h : (nw_ap N i j).length = 0) : nx_far (x i) = (-99998 : Int32) := by
  have hn := hW.n
  unfold nx_far
  by_cases c : x i < 1000000000
  · obtain ⟨q', g1, g2⟩ := nx_apsp hW (show i < 10 by omega) (show j < 10 by omega) hne hx c
    have := List.length_pos_of_mem g1
    omega
  · rw [if_neg c]
theorem nx_pso {k b : Nat} {σ : jv_S} (hi : i < nw_n N) (hj : j < nw_n N) (hne : i ≠ j) (h : nx_H (N, some (i, j, k), K) σ) (hk : k < 12) (n : Nat) :
    (∃ q, nx_kth N i j k q ∧ ∃ σ', (b ≤ nw_sl N q → f_L_arePathsSo_lp33 (nI i) (nI j) (nI (nw_ap N i j).length) (n + 1) (nI b) true (nI k) σ = f_L_arePathsSo_lp33 (nI i) (nI j) (nI (nw_ap N i j).length) n (nI (nw_sl N q)) true (nI (k + 1)) σ') ∧ nx_H (N, some (i, j, k + 1), K) σ') ∨
    (k = (nw_ap N i j).length ∧ ∃ σ', f_L_arePathsSo_lp33 (nI i) (nI j) (nI (nw_ap N i j).length) (n + 1) (nI b) true (nI k) σ = some (.inl (true, σ')) ∧ nx_H (N, some (i, j, k), K) σ') := by
  have hW : nw_W N := h.1.1
  have hn := hW.n
  have hle := nx_apb hW (fr := i) (to := j)
  have e12 : ¬ (12 : Int32) ≤ nI k := nI_ge (b := 12) hk (by omega)
  obtain ⟨a, p', τ, hR, g1, g2⟩ := nx_d0 (0 : Int32) h
  rcases hR with ⟨c, -⟩ | ⟨fr, to, k', e, hR⟩
  · cases c
  cases e
  rcases hR with ⟨q, hq, rfl, rfl⟩ | ⟨hk', rfl, rfl⟩
  · left
    refine ⟨q, hq, ?_⟩
    have hlt := nx_kth_lt hq
    have hq1 := nx_apf hW hq.1
    have hq2 := nx_slp hW hq.1
    have hq3 := nx_aplen hW hi hj hne hq.1
    obtain ⟨pe, -⟩ := nx_pe g2 hq
    have pd := nx_pd g2
    have nd : f_X7_nodes τ = nI (nw_n N) := nx_nodes g2
    have e1 : nI k < nI (nw_ap N i j).length := nI_lt hlt (by omega)
    have e2 : ¬ nI (nw_sl N q) ≤ 0 := nI_nle hq2 (by omega)
    have e3 : ¬ nI q.length < (1 : Int32) := nI_nlt (b := 1) (by omega) (by omega)
    have e4 : ¬ nI (nw_n N) ≤ nI q.length := nI_ge hq3 (by omega)
    have e5 : nI (nw_sl N q) - (1 : Int32) = nI (nw_sl N q - 1) := pk_sub (b := 1) (by omega)
    have c1 := nx_cge hW hq
    have c2 := nx_cle hW hq hq2
    have c3 : (nw_ap N i j).countP (fun x => decide (nw_sl N x ≤ nw_sl N q)) ≤ (nw_ap N i j).length := List.countP_le_length
    have e6 : ¬ nI ((nw_ap N i j).countP (fun x => decide (nw_sl N x ≤ nw_sl N q))) ≤ nI k := nI_ge c1 (by omega)
    have e7 : ¬ nI k < nI ((nw_ap N i j).countP (fun x => decide (nw_sl N x ≤ nw_sl N q - 1))) := nI_nlt c2 (by omega)
    by_cases c0 : k = 0
    · subst c0
      obtain ⟨x, hx, hD⟩ := nx_A0 g2 hi hj (0 : Int32)
      obtain ⟨τ1, d1, d2⟩ := hD τ g2
      have d1 : f_L_asks τ (0 : Int32) (nI i) (nI j) (0 : Int32) = some (nx_far (x i), τ1) := d1
      obtain ⟨f1, f2⟩ := nx_first hW hi hj hne hx hq
      rw [show nx_far (x i) = nI (nw_sl N q) by unfold nx_far; rw [if_pos f2, f1]] at d1
      obtain ⟨τ2, k1, k2⟩ := nx_cnt d2 hi hj hne (show nw_sl N q ≤ 100000 by omega)
      obtain ⟨τ3, k3, k4⟩ := nx_cnt k2 hi hj hne (show nw_sl N q - 1 ≤ 100000 by omega)
      refine ⟨τ3, fun hb => ?_, k4⟩
      have e8 : ¬ nI (nw_sl N q) < nI b := nI_nlt hb (by omega)
      have e0 : ¬ (0 : Int32) < nI 0 := by decide
      rw [f_L_arePathsSo_lp33, if_neg e12, if_pos rfl]
      simp only [nw_bd, nw_lt, nx_xeO, g1, e1, e2, e3, e4, e5, e6, e7, e8, e0, pe, pd, nd, nI_1, d1, k1, k3, if_true, if_false]
    · obtain ⟨τ2, k1, k2⟩ := nx_cnt g2 hi hj hne (show nw_sl N q ≤ 100000 by omega)
      obtain ⟨τ3, k3, k4⟩ := nx_cnt k2 hi hj hne (show nw_sl N q - 1 ≤ 100000 by omega)
      refine ⟨τ3, fun hb => ?_, k4⟩
      have e8 : ¬ nI (nw_sl N q) < nI b := nI_nlt hb (by omega)
      have e0 : (0 : Int32) < nI k := nI_lt (a := 0) (by omega) (by omega)
      rw [f_L_arePathsSo_lp33, if_neg e12, if_pos rfl]
      simp only [nw_bd, nw_lt, nx_xeO, g1, e1, e2, e3, e4, e5, e6, e7, e8, e0, pe, pd, nd, nI_1, k1, k3, if_true, if_false]
  · right
    refine ⟨hk', ?_⟩
    have pd := nx_pd g2
    have e1 : ¬ nI k < nI (nw_ap N i j).length := nI_nlt (by omega) (by omega)
    have e2 : nI k = nI (nw_ap N i j).length := by rw [hk']
    by_cases c0 : k = 0
    · obtain ⟨x, hx, hD⟩ := nx_A0 g2 hi hj (0 : Int32)
      obtain ⟨τ1, d1, d2⟩ := hD τ g2
      have d1 : f_L_asks τ (0 : Int32) (nI i) (nI j) (0 : Int32) = some (nx_far (x i), τ1) := d1
      rw [nx_nop hW hi hj hne hx (by omega)] at d1
      refine ⟨τ1, ?_, d2⟩
      have e0 : ¬ (0 : Int32) < nI (nw_ap N i j).length := nI_nlt (b := (nw_ap N i j).length) (a := 0) (by omega) (by omega)
      rw [f_L_arePathsSo_lp33, if_neg e12, if_pos rfl, g1, nw_bd, if_neg e1, if_pos rfl]
      simp only [nw_bd, nw_lt, nx_xeO, e0, e2, pd, d1, if_true, if_false]
    · refine ⟨τ, ?_, g2⟩
      have e0 : (0 : Int32) < nI (nw_ap N i j).length := nI_lt (a := 0) (by omega) (by omega)
      rw [f_L_arePathsSo_lp33, if_neg e12, if_pos rfl, g1, nw_bd, if_neg e1, if_pos rfl]
      simp only [nw_bd, nw_lt, nx_xeO, e0, e2, pd, if_true, if_false]
theorem nx_psl (hi : i < nw_n N) (hj : j < nw_n N) (hne : i ≠ j) : ∀ (m k n b : Nat) (σ : jv_S), k + m = 12 → m < n → k ≤ (nw_ap N i j).length → nx_H (N, some (i, j, k), K) σ → ((k = 0 ∧ b = 0) ∨ ∃ q k', k = k' + 1 ∧ nx_kth N i j k' q ∧ b = nw_sl N q) →
    ∃ σ' r, f_L_arePathsSo_lp33 (nI i) (nI j) (nI (nw_ap N i j).length) n (nI b) true (nI k) σ = some r ∧ (r = .inl (true, σ') ∨ ∃ v v', r = .inr (v, true, v', σ')) ∧ nx_H (N, some (i, j, min 12 (nw_ap N i j).length), K) σ' := by
  intro m
  induction m with
  | zero =>
    intro k n b σ hk hn hl h hb
    obtain ⟨f, rfl⟩ := nw_f0 hn
    refine ⟨σ, _, ?_, Or.inr ⟨nI b, nI k, rfl⟩, by rw [show min 12 (nw_ap N i j).length = k by omega]; exact h⟩
    rw [f_L_arePathsSo_lp33, if_pos (show (12 : Int32) ≤ nI k from nI_le (a := 12) (by omega) (by omega))]
  | succ m ih =>
    intro k n b σ hk hn hl h hb
    obtain ⟨f, rfl, hg⟩ := nw_fe hn
    rcases nx_pso (b := b) hi hj hne h (by omega) f with ⟨q, hq, σ', g1, g2⟩ | ⟨hk', σ', g1, g2⟩
    · have hbq : b ≤ nw_sl N q := by
        rcases hb with ⟨-, hb⟩ | ⟨q', k', rfl, h', hb⟩
        · omega
        · have : nw_sl N q' ≤ nw_sl N q := nx_kle (N := N) h.1.1 h' hq
          omega
      have hlt := nx_kth_lt hq
      obtain ⟨σ2, r, k1, k2, k3⟩ := ih (k + 1) f (nw_sl N q) σ' (by omega) hg (by omega) g2 (Or.inr ⟨q, k, rfl, hq, rfl⟩)
      exact ⟨σ2, r, by rw [g1 hbq, k1], k2, k3⟩
    · exact ⟨σ', _, g1, Or.inl rfl, by rw [show min 12 (nw_ap N i j).length = k by omega]; exact g2⟩
theorem nx_ps {P : Option (Nat × Nat × Nat)} {σ : jv_S} (h : nx_H (N, P, K) σ) (hi : i < nw_n N) (hj : j < nw_n N) (hne : i ≠ j) : ∃ σ', f_L_arePathsSo σ (nI i) (nI j) = some (true, σ') ∧ nx_H (N, some (i, j, min 12 (nw_ap N i j).length), K) σ' := by
  have hW : nw_W N := h.1.1
  have hn := hW.n
  obtain ⟨τ, g1, g2⟩ := nx_cnt h hi hj hne (show 100000 ≤ 100000 by omega)
  have hall : (nw_ap N i j).countP (fun q => decide (nw_sl N q ≤ 100000)) = (nw_ap N i j).length := by
    rw [List.countP_eq_length]
    intro q hq
    have := (nx_apf hW hq).2.2.2.2.2
    simp only [decide_eq_true_eq]
    omega
  have g1 : f_X7_countPaths σ (nI i) (nI j) (nI 100000) = some (.ok (nI (nw_ap N i j).length), τ) := by rw [← hall]; exact g1
  have g1 : f_X7_countPaths σ (nI i) (nI j) (100000 : Int32) = some (.ok (nI (nw_ap N i j).length), τ) := g1
  obtain ⟨a, p', hR, hD⟩ := nx_S1 (nI i) (nI j) g2
  rcases hR with ⟨i', j', a1, a2, -, e1, e2, rfl, rfl⟩ | ⟨e, -⟩
  · have a1 : i' < nw_n N := a1
    have a2 : j' < nw_n N := a2
    have e1 : i = i' := (nI_eq (by omega) (by omega)).mp e1
    have e2 : j = j' := (nI_eq (by omega) (by omega)).mp e2
    subst e1; subst e2
    obtain ⟨τ1, k1, k2⟩ := hD τ g2
    have k1 : f_L_starts τ (1 : Int32) (nI i) (nI j) = some ((1 : Int32), τ1) := k1
    obtain ⟨σ', r, m1, m2, m3⟩ := nx_psl hi hj hne 12 0 13 0 τ1 rfl (by omega) (by omega) k2 (Or.inl ⟨rfl, rfl⟩)
    have m1 : f_L_arePathsSo_lp33 (nI i) (nI j) (nI (nw_ap N i j).length) 13 (0 : Int32) true (0 : Int32) τ1 = some r := m1
    refine ⟨σ', ?_, m3⟩
    unfold f_L_arePathsSo
    rw [g1]
    simp only [nw_bd, nw_lt, nx_xeO, k1, if_true, m1]
    rcases m2 with rfl | ⟨v, v', rfl⟩ <;> rfl
  · exact absurd e (nx_two_no hn.2.1 hi hj hne rfl rfl)
end NXPS
