/-! ===== areWalksSo ===== -/
section NXWS
variable {N : nw_N} {P : Option (Nat × Nat × Nat)} {i j : Nat}
theorem nx_Spos {n : Nat} {f : Nat → Nat} (h : 0 < wk_S n f) : ∃ a, a < n ∧ 0 < f a := by
  by_cases c : ∃ a, a < n ∧ 0 < f a
  · exact c
  · have := nw_S_zero (n := n) (f := f) (fun a ha => by
      by_cases c' : 0 < f a
      · exact absurd ⟨a, ha, c'⟩ c
      · omega)
    omega
theorem nx_wR (hW : nw_W N) : ∀ (L v : Nat), 0 < nw_w N j v L → ∃ h, bf_R (nw_ba j) (nw_arc N) v h L := by
  intro L
  induction L using Nat.strongRecOn with
  | _ L ih =>
    intro v h
    by_cases c : L = 0
    · subst c
      rw [nw_w0] at h
      by_cases c2 : v = j
      · exact ⟨0, bf_R.base ⟨c2, rfl⟩⟩
      · rw [if_neg c2] at h; omega
    · rw [nw_ws hW (by omega)] at h
      obtain ⟨e, he, h2⟩ := nx_Spos h
      have hl := hW.e he
      by_cases cu : nw_ue N v e
      · rw [nw_if_p cu] at h2
        by_cases cl : nw_l N e ≤ L
        · rw [if_pos cl] at h2
          have h1 : 1 ≤ nw_l N e := by omega
          obtain ⟨k, hk⟩ := ih (L - nw_l N e) (by omega) (nw_e N e) h2
          have := bf_R.step (show nw_arc N v (nw_l N e) (nw_e N e) from ⟨e, he, cu.1, cu.2, rfl, rfl⟩) hk
          rw [show nw_l N e + (L - nw_l N e) = L by omega] at this
          exact ⟨_, this⟩
        · rw [if_neg cl] at h2; omega
      · rw [nw_if_n cu] at h2; omega
theorem nx_Rw (hW : nw_W N) : ∀ (h v L : Nat), bf_R (nw_ba j) (nw_arc N) v h L → 0 < nw_w N j v L := by
  intro h
  induction h with
  | zero =>
    intro v L hR
    obtain ⟨h1, h2⟩ : v = j ∧ L = 0 := hR
    rw [h2, nw_w0, if_pos h1]; omega
  | succ h ih =>
    intro v L hR
    obtain ⟨w, u, L', ⟨e, he, h1, h2, h3, h4⟩, hR', rfl⟩ := hR
    have hl := hW.e he
    have h5 : 1 ≤ nw_l N e := by omega
    have h6 := ih u L' hR'
    rw [nw_ws hW (by omega)]
    have h7 := nw_S_term (f := fun e => nw_if N v e (if nw_l N e ≤ w + L' then nw_w N j (nw_e N e) (w + L' - nw_l N e) else 0)) he
    rw [nw_if_p (show nw_ue N v e from ⟨h1, h2⟩), if_pos (by omega), h3, show w + L' - nw_l N e = L' by omega] at h7
    omega
theorem nx_at0 (hW : nw_W N) (hi : i < 10) {x : Nat → Nat} (hx : nw_ds N j x) {L : Nat} (hL : L < 1000000000) (h : nw_at N j i 0 L) : nx_far (x i) = nI L := by
  have h1 := h.1
  have h2 := h.2
  rw [nw_cs] at h2
  obtain ⟨k, hk⟩ := nx_wR (j := j) hW L i (by omega)
  have h3 := hx.2 i k L hi hk
  obtain ⟨k', hk'⟩ := (hx.1 i hi).2 (by omega)
  have h4 := nx_Rw hW k' i _ hk'
  have h5 : x i = L := by
    by_cases c : x i = L
    · exact c
    · have h6 := nw_cmono (N := N) (to := j) (v := i) (show x i + 1 ≤ L by omega)
      rw [nw_cs] at h6
      omega
  unfold nx_far
  rw [if_pos (by omega), h5]
theorem nx_noW (hW : nw_W N) (hi : i < 10) {x : Nat → Nat} (hx : nw_ds N j x) (h : ∀ T, nw_c N j i T ≤ 0) : nx_far (x i) = (-99998 : Int32) := by
  unfold nx_far
  by_cases c : x i < 1000000000
  · obtain ⟨k', hk'⟩ := (hx.1 i hi).2 c
    have h4 := nx_Rw hW k' i _ hk'
    have h5 := h (x i + 1)
    rw [nw_cs] at h5
    omega
  · rw [if_neg c]
theorem nx_wwl (hW : nw_W N) : ∀ (w : List Nat) (v r L : Nat), nw_ww N j w v r → nw_at N j v r L → (L = 0 ↔ w.length = 0) ∧ w.length ≤ L := by
  intro w
  induction w with
  | nil =>
    intro v r L h h'
    have := nw_at_uniq (show nw_at N j v r 0 from h) h'
    subst this
    exact ⟨Iff.rfl, Nat.le_refl _⟩
  | cons e w ih =>
    intro v r L h h'
    obtain ⟨L', r', g1, g2, g3, g4, g5, g6, g7, g8⟩ := h
    have := nw_at_uniq g1 h'
    subst this
    have hl := hW.e g3
    have h1 := (ih _ _ _ g8 g6).2
    have h2 : 1 ≤ nw_l N e := by omega
    rw [List.length_cons]
    exact ⟨⟨fun h => by omega, fun h => by omega⟩, by omega⟩
def nx_Kk (N : nw_N) (i j kk : Nat) : Prop := kk ≤ 12 ∧ (kk = 12 ∨ ∀ T, nw_c N j i T ≤ kk) ∧ ∃ T, kk ≤ nw_c N j i T
theorem nx_Kk_u {k k' : Nat} (h : nx_Kk N i j k) (h' : nx_Kk N i j k') : k = k' := by
  obtain ⟨h1, h2, T, h3⟩ := h
  obtain ⟨g1, g2, T', g3⟩ := h'
  rcases Nat.lt_trichotomy k k' with c | c | c
  · rcases h2 with h2 | h2
    · omega
    · have := h2 T'; omega
  · exact c
  · rcases g2 with g2 | g2
    · omega
    · have := g2 T; omega
theorem nx_neg {L : Nat} (h : L < 2 ^ 31) : ¬ nI L = (-99998 : Int32) := fun e => by
  have h1 := nI_pos h
  rw [e] at h1
  exact h1 (by decide)
theorem nx_wsl (hi : i < nw_n N) {x : Nat → Nat} (hx : nw_ds N j x) : ∀ (m k n b : Nat) (σ : jv_S), k + m = 12 → m < n → nx_H (N, P, some (i, j, k)) σ → (∃ T, k ≤ nw_c N j i T) → ((k = 0 ∧ b = 0) ∨ ∃ k', k = k' + 1 ∧ nw_at N j i k' b) →
    ∃ kk σ' r, f_L_areWalksSo_lp33 (nx_far (x i)) n (nI b) true (nI k) σ = some r ∧ (r = .inl (true, σ') ∨ ∃ v v', r = .inr (v, true, v', σ')) ∧ nx_Kk N i j kk ∧ nx_H (N, P, some (i, j, kk)) σ' := by
  intro m
  induction m with
  | zero =>
    intro k n b σ hk hn h hT hb
    obtain ⟨f, rfl⟩ := nw_f0 hn
    refine ⟨k, σ, _, ?_, Or.inr ⟨nI b, nI k, rfl⟩, ⟨by omega, Or.inl (by omega), hT⟩, h⟩
    rw [f_L_areWalksSo_lp33, if_pos (show (12 : Int32) ≤ nI k from nI_le (a := 12) (by omega) (by omega))]
  | succ m ih =>
    intro k n b σ hk hn h hT hb
    obtain ⟨f, rfl, hg⟩ := nw_fe hn
    have hW : nw_W N := h.1.1
    have hnn := hW.n
    have e12 : ¬ (12 : Int32) ≤ nI k := nI_ge (b := 12) (by omega) (by omega)
    obtain ⟨a, p', τ, hR, g1, g2⟩ := nx_d4 (0 : Int32) h
    rcases hR with ⟨c, -⟩ | ⟨fr, to, k', e, hR⟩
    · cases c
    cases e
    rcases hR with ⟨c, -⟩ | ⟨-, L, hat, hL, rfl, rfl⟩ | ⟨-, hno, rfl, rfl⟩
    · omega
    · obtain ⟨w, w1, w2, w3, w4, -⟩ := nx_we g2
      have wd := nx_wd g2
      obtain ⟨l1, l2⟩ := nx_wwl hW w i k L w1 hat
      have hbL : b ≤ L := by
        rcases hb with ⟨-, hb⟩ | ⟨k', rfl, hb⟩
        · omega
        · exact nw_at_mono hb hat (by omega)
      have e1 := nx_neg (L := L) (by omega)
      have e2 : ¬ nI L < nI b := nI_nlt hbL (by omega)
      have e3 : (nI w.length = 0) = (nI L = 0) := by
        have a1 := nI_eq (a := w.length) (b := 0) (by omega) (by omega)
        have a2 := nI_eq (a := L) (b := 0) (by omega) (by omega)
        exact propext (a1.trans (l1.symm.trans a2.symm))
      have e4 : ¬ nI L < nI w.length := nI_nlt l2 (by omega)
      have hT' : ∃ T, k + 1 ≤ nw_c N j i T := ⟨L + 1, hat.2⟩
      obtain ⟨kk, σ', r, k1, k2, k3, k4⟩ := ih (k + 1) f L τ (by omega) hg g2 hT' (Or.inr ⟨k, rfl, hat⟩)
      refine ⟨kk, σ', r, ?_, k2, k3, k4⟩
      rw [← k1, f_L_areWalksSo_lp33, if_neg e12, if_pos rfl]
      by_cases c0 : k = 0
      · subst c0
        have e5 : nx_far (x i) = nI L := nx_at0 hW (by omega) hx (by omega) hat
        have e0 : ¬ (0 : Int32) < nI 0 := by decide
        simp only [nw_bd, nw_lt, nx_xeO, g1, e1, e2, e3, e4, e5, e0, w3, w4, wd, nI_1, if_true, if_false]
      · have e0 : (0 : Int32) < nI k := nI_lt (a := 0) (by omega) (by omega)
        simp only [nw_bd, nw_lt, nx_xeO, g1, e1, e2, e3, e4, e0, w3, w4, wd, nI_1, if_true, if_false]
    · have wd := nx_wd g2
      refine ⟨k, τ, _, ?_, Or.inl rfl, ⟨by omega, Or.inr hno, hT⟩, g2⟩
      rw [f_L_areWalksSo_lp33, if_neg e12, if_pos rfl]
      by_cases c0 : k = 0
      · subst c0
        have e5 : nx_far (x i) = (-99998 : Int32) := nx_noW hW (by omega) hx hno
        have e0 : ¬ (0 : Int32) < nI 0 := by decide
        simp only [nw_bd, nw_lt, nx_xeO, g1, e5, e0, wd, if_true, if_false]
      · have e0 : (0 : Int32) < nI k := nI_lt (a := 0) (by omega) (by omega)
        simp only [nw_bd, nw_lt, nx_xeO, g1, e0, wd, if_true, if_false]
theorem nx_ws {K : Option (Nat × Nat × Nat)} {σ : jv_S} (h : nx_H (N, P, K) σ) (hi : i < nw_n N) (hj : j < nw_n N) : ∃ kk σ', nx_Kk N i j kk ∧ f_L_areWalksSo σ (nI i) (nI j) = some (true, σ') ∧ nx_H (N, P, some (i, j, kk)) σ' := by
  have hW : nw_W N := h.1.1
  have hn := hW.n
  obtain ⟨x, hx, hD⟩ := nx_A0 h hi hj (0 : Int32)
  obtain ⟨τ0, d1, d2⟩ := hD σ h
  have d1 : f_L_asks σ (0 : Int32) (nI i) (nI j) (0 : Int32) = some (nx_far (x i), τ0) := d1
  obtain ⟨a, p', hR, hD⟩ := nx_S2 (nI i) (nI j) d2
  rcases hR with ⟨i', j', a1, a2, e1, e2, rfl, rfl⟩ | ⟨e, -⟩
  · have a1 : i' < nw_n N := a1
    have a2 : j' < nw_n N := a2
    have e1 : i = i' := (nI_eq (by omega) (by omega)).mp e1
    have e2 : j = j' := (nI_eq (by omega) (by omega)).mp e2
    subst e1; subst e2
    obtain ⟨τ1, k1, k2⟩ := hD τ0 d2
    have k1 : f_L_starts τ0 (2 : Int32) (nI i) (nI j) = some ((1 : Int32), τ1) := k1
    obtain ⟨kk, σ', r, m1, m2, m3, m4⟩ := nx_wsl hi hx 12 0 13 0 τ1 rfl (by omega) k2 ⟨0, Nat.zero_le _⟩ (Or.inl ⟨rfl, rfl⟩)
    have m1 : f_L_areWalksSo_lp33 (nx_far (x i)) 13 (0 : Int32) true (0 : Int32) τ1 = some r := m1
    refine ⟨kk, σ', m3, ?_, m4⟩
    unfold f_L_areWalksSo
    rw [d1]
    simp only [nw_bd, nw_lt, k1, if_true, m1]
    rcases m2 with rfl | ⟨v, v', rfl⟩ <;> rfl
  · rcases e with e | e
    · exact absurd e (nx_out2 hi (by omega))
    · exact absurd e (nx_out2 hj (by omega))
end NXWS
