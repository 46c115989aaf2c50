/-! ===== the reference's lengths of the first fifty walks ===== -/
def nw_bc (B : List (Nat × Nat)) (u T : Nat) : Nat := B.countP (fun q => q.1 == u && decide (q.2 < T))
/-- counts and lengths found so far, and what waits -/
def nw_R (N : nw_N) (to : Nat) (cnt : Nat → Nat) (ln : Nat → Nat → Nat) (B : List (Nat × Nat)) : Prop :=
  (∀ v, v < 10 → cnt v ≤ 50 ∧ ∀ r, r < cnt v → nw_at N to v r (ln v r) ∧ ln v r ≤ 1201000) ∧
  (∀ u, u < 10 → cnt u < 50 → ∀ T, min (cnt u) (nw_c N to u T) + nw_bc B u T = (if u = to ∧ 0 < T then 1 else 0) + wk_S (nw_m N) (fun e => nw_if N u e (min (cnt (nw_e N e)) (nw_c N to (nw_e N e) (T - nw_l N e))))) ∧
  (∀ q ∈ B, q.1 < 10 ∧ q.2 + 1000 * (B.length + wk_S (nw_m N) (fun e => if nw_us N e = true then 50 - cnt (nw_e N e) else 0)) ≤ 1201000) ∧
  B.length + wk_S (nw_m N) (fun e => if nw_us N e = true then 50 - cnt (nw_e N e) else 0) ≤ 1201
section NWR
variable {N : nw_N} {to : Nat}
theorem nw_Rfull (hW : nw_W N) {cnt : Nat → Nat} {ln : Nat → Nat → Nat} {B : List (Nat × Nat)} (hR : nw_R N to cnt ln B) {P : Nat → Prop} (hP0 : ∀ a b, a ≤ b → P b → P a) (hP : ∀ T, P T → ∀ u, u < 10 → nw_bc B u T = 0) : ∀ T, P T → ∀ u, u < 10 → cnt u < 50 → nw_c N to u T ≤ cnt u := by
  obtain ⟨a1, a2, a3, a4⟩ := hR
  intro T
  induction T using Nat.strongRecOn with
  | _ T ih =>
    intro hPT u hu hc
    have h1 := a2 u hu hc T
    rw [hP T hPT u hu, Nat.add_zero] at h1
    have h2 : wk_S (nw_m N) (fun e => nw_if N u e (min (cnt (nw_e N e)) (nw_c N to (nw_e N e) (T - nw_l N e)))) = wk_S (nw_m N) (fun e => nw_if N u e (nw_c N to (nw_e N e) (T - nw_l N e))) := by
      refine wk_S_congr (fun e he => ?_)
      by_cases cu : nw_ue N u e
      · rw [nw_if_p cu, nw_if_p cu]
        refine Nat.min_eq_right ?_
        have hb := hW.e he
        by_cases c2 : cnt (nw_e N e) < 50
        · by_cases cT : T = 0
          · subst cT; rw [Nat.zero_sub]; exact Nat.zero_le _
          · exact ih (T - nw_l N e) (by omega) (hP0 _ T (by omega) hPT) _ hb.2.1 c2
        · by_cases c3 : nw_c N to (nw_e N e) (T - nw_l N e) ≤ cnt (nw_e N e)
          · exact c3
          · exfalso
            have h3 := nw_S_term (f := fun e => nw_if N u e (min (cnt (nw_e N e)) (nw_c N to (nw_e N e) (T - nw_l N e)))) he
            rw [nw_if_p cu, Nat.min_eq_left (by omega)] at h3
            have h4 := Nat.min_le_left (cnt u) (nw_c N to u T)
            omega
      · rw [nw_if_n cu, nw_if_n cu]
    rw [h2, ← nw_crec hW] at h1
    rw [← h1]
    exact Nat.min_le_left _ _
/-- where the least one stands -/
theorem nw_R0 (hW : nw_W N) (hto : to < 10) {ln : Nat → Nat → Nat} : nw_R N to (fun _ => 0) ln [(to, 0)] := by
  have hn := hW.n
  have h24 : wk_S (nw_m N) (fun e => if nw_us N e = true then 50 - 0 else 0) ≤ 1200 := by
    have h1 := wk_S_le (n := nw_m N) (f := fun e => if nw_us N e = true then 50 - 0 else 0) (g := fun _ => 50) (fun e _ => by (try dsimp only); split <;> omega)
    have h2 : ∀ n, wk_S n (fun _ => 50) = 50 * n := fun n => by
      induction n with
      | zero => rfl
      | succ n ih => show wk_S n (fun _ => 50) + 50 = _; rw [ih]; omega
    rw [h2] at h1
    omega
  refine ⟨fun v hv => ⟨Nat.zero_le _, fun r hr => absurd hr (Nat.not_lt_zero _)⟩, fun u hu hc T => ?_, fun q hq => ?_, ?_⟩
  · rw [nw_S_zero (fun e _ => by unfold nw_if; split <;> simp)]
    simp only [Nat.zero_min, Nat.zero_add, Nat.add_zero]
    unfold nw_bc
    by_cases c : u = to
    · subst c
      by_cases c2 : 0 < T
      · rw [if_pos ⟨rfl, c2⟩]; simp [c2]
      · rw [if_neg (fun h => c2 h.2)]; simp; omega
    · rw [if_neg (fun h => c h.1)]
      simp
      exact fun h => absurd h.symm c
  · rw [List.mem_singleton.mp hq]
    refine ⟨hto, ?_⟩
    show 0 + 1000 * (1 + _) ≤ _
    dsimp only
    omega
  · show 1 + _ ≤ _
    dsimp only
    omega
/-- the least one that waits is taken and listed, what it leads to waits -/
theorem nw_Rs (hW : nw_W N) {cnt : Nat → Nat} {ln : Nat → Nat → Nat} {B B1 B2 : List (Nat × Nat)} {u L : Nat} (hR : nw_R N to cnt ln B) (hu : u < 10) (hmin : ∀ q ∈ B, L ≤ q.2) (hmem : (u, L) ∈ B) (hB1 : ∀ v T, nw_bc B v T = nw_bc B1 v T + if v = u ∧ L < T then 1 else 0) (hc : cnt u < 50) (hB2 : ∀ v T, nw_bc B2 v T = nw_bc B1 v T + wk_S (nw_m N) (fun e => if nw_us N e = true ∧ nw_e N e = u ∧ nw_t N e = v ∧ L + nw_l N e < T then 1 else 0))
    (hl1 : B.length = B1.length + 1) (hl2 : B2.length = B1.length + wk_S (nw_m N) (fun e => if nw_us N e = true ∧ nw_e N e = u then 1 else 0)) (hm1 : ∀ q ∈ B1, q ∈ B) (hm2 : ∀ q ∈ B2, q ∈ B1 ∨ ∃ e, e < nw_m N ∧ q = (nw_t N e, L + nw_l N e)) : nw_R N to (nw_u1 cnt u (cnt u + 1)) (nw_u2 ln u (cnt u) L) B2 := by
  obtain ⟨a1, a2, a3, a4⟩ := id hR
  have hz : ∀ T, T ≤ L → ∀ v, v < 10 → nw_bc B v T = 0 := fun T hT v hv => by
    unfold nw_bc
    rw [List.countP_eq_zero]
    intro q hq
    have := hmin q hq
    simp
    omega
  have hf := nw_Rfull hW hR (P := fun T => T ≤ L) (fun a b hab hb => Nat.le_trans hab hb) hz
  have h1 := hf L (Nat.le_refl _) u hu hc
  have hat : nw_at N to u (cnt u) L := by
    refine ⟨h1, ?_⟩
    have h2 := a2 u hu hc (L + 1)
    have h3 : 1 ≤ nw_bc B u (L + 1) := by
      have : 0 < nw_bc B u (L + 1) := by
        unfold nw_bc
        rw [List.countP_pos_iff]
        exact ⟨(u, L), hmem, by simp⟩
      exact this
    have h4 : (if u = to ∧ 0 < L + 1 then 1 else 0) + wk_S (nw_m N) (fun e => nw_if N u e (min (cnt (nw_e N e)) (nw_c N to (nw_e N e) (L + 1 - nw_l N e)))) ≤ nw_c N to u (L + 1) := by
      rw [nw_crec hW (v := u)]
      refine Nat.add_le_add_left (wk_S_le (fun e _ => ?_)) _
      by_cases cu : nw_ue N u e
      · rw [nw_if_p cu, nw_if_p cu]; exact Nat.min_le_right _ _
      · rw [nw_if_n cu, nw_if_n cu]; exact Nat.le_refl _
    by_cases c : cnt u < nw_c N to u (L + 1)
    · exact c
    · rw [Nat.min_eq_right (by omega)] at h2
      omega
  have hstep : ∀ T, min (cnt u + 1) (nw_c N to u T) = min (cnt u) (nw_c N to u T) + if L < T then 1 else 0 := fun T => by
    by_cases c : L < T
    · have h5 := nw_cmono (N := N) (to := to) (v := u) (show L + 1 ≤ T by omega)
      have h6 := hat.2
      rw [if_pos c, Nat.min_eq_left (by omega), Nat.min_eq_left (by omega)]
    · have h5 := nw_cmono (N := N) (to := to) (v := u) (show T ≤ L by omega)
      rw [if_neg c, Nat.min_eq_right (by omega), Nat.min_eq_right (by omega), Nat.add_zero]
  have hpot : wk_S (nw_m N) (fun e => if nw_us N e = true then 50 - nw_u1 cnt u (cnt u + 1) (nw_e N e) else 0) + wk_S (nw_m N) (fun e => if nw_us N e = true ∧ nw_e N e = u then 1 else 0) = wk_S (nw_m N) (fun e => if nw_us N e = true then 50 - cnt (nw_e N e) else 0) := by
    rw [← wk_S_add]
    refine wk_S_congr (fun e _ => ?_)
    by_cases c1 : nw_us N e = true
    · by_cases c2 : nw_e N e = u
      · rw [if_pos c1, if_pos ⟨c1, c2⟩, if_pos c1, c2, nw_u1s]; omega
      · rw [if_pos c1, if_neg (fun h => c2 h.2), if_pos c1, nw_u1n c2]; omega
    · rw [if_neg c1, if_neg (fun h => c1 h.1), if_neg c1]
  refine ⟨fun v hv => ⟨?_, fun r hr => ?_⟩, fun v hv hcv T => ?_, fun q hq => ?_, by omega⟩
  · by_cases c : v = u
    · subst c; rw [nw_u1s]; omega
    · rw [nw_u1n c]; exact (a1 v hv).1
  · by_cases c : v = u
    · subst c
      rw [nw_u1s] at hr
      by_cases c2 : r = cnt v
      · subst c2; rw [nw_u2s]; exact ⟨hat, by have := (a3 _ hmem).2; dsimp only at this; omega⟩
      · rw [nw_u2n (Or.inr c2)]; exact (a1 v hv).2 r (by omega)
    · rw [nw_u1n c] at hr
      rw [nw_u2n (Or.inl c)]; exact (a1 v hv).2 r hr
  · have hcv' : cnt v < 50 := by
      by_cases c : v = u
      · subst c; exact hc
      · rw [nw_u1n c] at hcv; exact hcv
    have h2 := a2 v hv hcv' T
    rw [hB1] at h2
    rw [hB2]
    have e1 : wk_S (nw_m N) (fun e => nw_if N v e (min (nw_u1 cnt u (cnt u + 1) (nw_e N e)) (nw_c N to (nw_e N e) (T - nw_l N e)))) = wk_S (nw_m N) (fun e => nw_if N v e (min (cnt (nw_e N e)) (nw_c N to (nw_e N e) (T - nw_l N e)))) + wk_S (nw_m N) (fun e => if nw_us N e = true ∧ nw_e N e = u ∧ nw_t N e = v ∧ L + nw_l N e < T then 1 else 0) := by
      rw [← wk_S_add]
      refine wk_S_congr (fun e _ => ?_)
      by_cases cu : nw_ue N v e
      · rw [nw_if_p cu, nw_if_p cu]
        by_cases c : nw_e N e = u
        · rw [c, nw_u1s, hstep]
          by_cases c2 : L + nw_l N e < T
          · rw [if_pos (show nw_us N e = true ∧ u = u ∧ nw_t N e = v ∧ L + nw_l N e < T from ⟨cu.1, rfl, cu.2, c2⟩), if_pos (show L < T - nw_l N e by omega)]
          · rw [if_neg (show ¬ (nw_us N e = true ∧ u = u ∧ nw_t N e = v ∧ L + nw_l N e < T) from fun h => c2 h.2.2.2), if_neg (show ¬ L < T - nw_l N e by omega)]
        · rw [nw_u1n c, if_neg (fun h => c h.2.1), Nat.add_zero]
      · rw [nw_if_n cu, nw_if_n cu, if_neg (fun h => cu ⟨h.1, h.2.2.1⟩)]
    rw [e1]
    by_cases c : v = u
    · subst c
      rw [nw_u1s, hstep]
      by_cases c2 : L < T
      · rw [if_pos c2]; rw [if_pos ⟨rfl, c2⟩] at h2; omega
      · rw [if_neg c2]; rw [if_neg (fun h => c2 h.2)] at h2; omega
    · rw [nw_u1n c]
      rw [if_neg (fun h => c h.1)] at h2
      omega
  · rcases hm2 q hq with h | ⟨e, he, rfl⟩
    · obtain ⟨b1, b2⟩ := a3 q (hm1 q h)
      exact ⟨b1, by omega⟩
    · obtain ⟨b1, b2⟩ := a3 _ hmem
      have hb := hW.e he
      have b2' : L + 1000 * (B.length + wk_S (nw_m N) (fun e => if nw_us N e = true then 50 - cnt (nw_e N e) else 0)) ≤ 1201000 := b2
      refine ⟨hb.1, ?_⟩
      show L + nw_l N e + _ ≤ _
      omega
/-- one that isn't wanted any more -/
theorem nw_Rd {cnt : Nat → Nat} {ln : Nat → Nat → Nat} {B B1 : List (Nat × Nat)} {u L : Nat} (hR : nw_R N to cnt ln B) (hB1 : ∀ v T, nw_bc B v T = nw_bc B1 v T + if v = u ∧ L < T then 1 else 0) (hc : ¬ cnt u < 50) (hl1 : B.length = B1.length + 1) (hm1 : ∀ q ∈ B1, q ∈ B) : nw_R N to cnt ln B1 := by
  obtain ⟨a1, a2, a3, a4⟩ := hR
  refine ⟨a1, fun v hv hcv T => ?_, fun q hq => ⟨(a3 q (hm1 q hq)).1, by have := (a3 q (hm1 q hq)).2; omega⟩, by omega⟩
  have h2 := a2 v hv hcv T
  rw [hB1, if_neg (fun h => hc (by rw [← h.1]; exact hcv)), Nat.add_zero] at h2
  exact h2
/-! the machine's side -/
def nw_bg (B : List (Nat × Nat)) (σ : jv_S) : Prop := σ.1 35 33 = nI B.length ∧ ∀ i q, B[i]? = some q → σ.1 52 i = nI q.1 ∧ σ.1 51 i = nI q.2
theorem nw_lp43 {B : List (Nat × Nat)} {σ : jv_S} (hB : nw_bg B σ) (hlen : B.length ≤ 1201) (hbd : ∀ q ∈ B, q.2 ≤ 1201000) : ∀ (k j i fuel : Nat), j + k = B.length → k < fuel → i < B.length → (∀ (a : Nat) (q w : Nat × Nat), a < j → B[a]? = some q → B[i]? = some w → w.2 ≤ q.2) →
    ∃ i' z, f_X8_laysFirsts_lp43 fuel (nI i) (nI j) σ = some (nI i', z) ∧ i' < B.length ∧ ∀ (a : Nat) (q w : Nat × Nat), B[a]? = some q → B[i']? = some w → w.2 ≤ q.2 := by
  intro k
  induction k with
  | zero =>
    intro j i fuel hj hf hi h
    obtain ⟨f, rfl⟩ := nw_f0 hf
    refine ⟨i, nI j, by rw [f_X8_laysFirsts_lp43, hB.1, if_pos (nI_le (by omega) (by omega))], hi, fun a q w hq hw => h a q w ?_ hq hw⟩
    have := (List.getElem?_eq_some_iff.mp hq).1
    omega
  | succ k ih =>
    intro j i fuel hj hf hi h
    obtain ⟨f, rfl, hg⟩ := nw_fe hf
    have hq : B[j]? = some B[j] := List.getElem?_eq_getElem (by omega)
    have hw : B[i]? = some B[i] := List.getElem?_eq_getElem hi
    have bq := hbd _ (List.mem_of_getElem? hq)
    have bw := hbd _ (List.mem_of_getElem? hw)
    rw [f_X8_laysFirsts_lp43, hB.1, if_neg (nI_ge (by omega) (by omega)), nw_ck (by omega) (by omega), nw_ck (by omega) (by omega), nI_clamp (by omega), nI_clamp (by omega), (hB.2 _ _ hq).2, (hB.2 _ _ hw).2, nI_1]
    simp only [if_true, nw_lt]
    by_cases c : B[i].2 ≤ B[j].2
    · rw [if_pos (nI_le c (by omega))]
      refine ih (j + 1) i f (by omega) hg hi (fun a q w ha hq' hw' => ?_)
      by_cases e : a = j
      · subst e
        rw [hq] at hq'; rw [hw] at hw'
        cases hq'; cases hw'
        exact c
      · exact h a q w (by omega) hq' hw'
    · rw [if_neg (nI_ge (by omega) (by omega))]
      refine ih (j + 1) j f (by omega) hg (by omega) (fun a q w ha hq' hw' => ?_)
      rw [hq] at hw'
      cases hw'
      by_cases e : a = j
      · subst e
        rw [hq] at hq'
        cases hq'
        exact Nat.le_refl _
      · have := h a q _ (by omega) hq' hw
        omega
def nw_pF (k j : Nat) : Bool := (k == 35 && j == 33) || (k == 49 || k == 50 || k == 51 || k == 52)
theorem nw_pF_M (k j : Nat) (h : nw_pM k j = true) : nw_pF k j = false := by
  simp only [nw_pM, nw_pF, Bool.or_eq_true, Bool.and_eq_true, beq_iff_eq, Bool.or_eq_false_iff, Bool.and_eq_false_iff, beq_eq_false_iff_ne] at h ⊢
  omega
theorem nw_lp175 (hW : nw_W N) {u L : Nat} {B1 : List (Nat × Nat)} (hu : u < 10) (hb : B1.length + wk_S (nw_m N) (fun e => if nw_us N e = true ∧ nw_e N e = u then 1 else 0) ≤ 1201) : ∀ (k j fuel : Nat) (B : List (Nat × Nat)) (σ : jv_S), j + k = nw_m N → k < fuel → nw_M N σ → nw_bg B σ → (∀ v T, nw_bc B v T = nw_bc B1 v T + wk_S j (fun e => if nw_us N e = true ∧ nw_e N e = u ∧ nw_t N e = v ∧ L + nw_l N e < T then 1 else 0)) → B.length = B1.length + wk_S j (fun e => if nw_us N e = true ∧ nw_e N e = u then 1 else 0) → (∀ q ∈ B, q ∈ B1 ∨ ∃ e, e < nw_m N ∧ q = (nw_t N e, L + nw_l N e)) →
    ∃ B2 τ z, f_X8_laysFirsts_lp175 (nI u) (nI L) fuel (nI j) σ = some (z, τ) ∧ nw_f (fun k j => (k == 35 && j == 33) || (k == 51 || k == 52)) σ τ ∧ nw_bg B2 τ ∧ (∀ v T, nw_bc B2 v T = nw_bc B1 v T + wk_S (nw_m N) (fun e => if nw_us N e = true ∧ nw_e N e = u ∧ nw_t N e = v ∧ L + nw_l N e < T then 1 else 0)) ∧ B2.length = B1.length + wk_S (nw_m N) (fun e => if nw_us N e = true ∧ nw_e N e = u then 1 else 0) ∧ (∀ q ∈ B2, q ∈ B1 ∨ ∃ e, e < nw_m N ∧ q = (nw_t N e, L + nw_l N e)) := by
  intro k
  have hn := hW.n
  induction k with
  | zero =>
    intro j fuel B σ hj hf hM hB h1 h2 h3
    obtain ⟨f, rfl⟩ := nw_f0 hf
    have hj : j = nw_m N := by omega
    subst hj
    exact ⟨B, σ, _, by rw [f_X8_laysFirsts_lp175, hM.2.1, if_pos (nI_le (Nat.le_refl _) (by omega))], nw_f.rfl, hB, h1, h2, h3⟩
  | succ k ih =>
    intro j fuel B σ hj hf hM hB h1 h2 h3
    obtain ⟨f, rfl, hg⟩ := nw_fe hf
    have hjm : j < nw_m N := by omega
    have he := hW.e hjm
    have hr := hM.2.2.1 j hjm
    rw [f_X8_laysFirsts_lp175, hM.2.1, if_neg (nI_ge (by omega) (by omega)), nw_usM hW hM hjm, nw_bd, nI_1]
    have hno : ¬ (nw_us N j = true ∧ nw_e N j = u) → ∃ B2 τ z, f_X8_laysFirsts_lp175 (nI u) (nI L) f (nI (j + 1)) σ = some (z, τ) ∧ nw_f (fun k j => (k == 35 && j == 33) || (k == 51 || k == 52)) σ τ ∧ nw_bg B2 τ ∧ (∀ v T, nw_bc B2 v T = nw_bc B1 v T + wk_S (nw_m N) (fun e => if nw_us N e = true ∧ nw_e N e = u ∧ nw_t N e = v ∧ L + nw_l N e < T then 1 else 0)) ∧ B2.length = B1.length + wk_S (nw_m N) (fun e => if nw_us N e = true ∧ nw_e N e = u then 1 else 0) ∧ (∀ q ∈ B2, q ∈ B1 ∨ ∃ e, e < nw_m N ∧ q = (nw_t N e, L + nw_l N e)) := fun hn => by
      refine ih (j + 1) f B σ (by omega) hg hM hB (fun v T => ?_) ?_ h3
      · rw [h1]
        show _ = nw_bc B1 v T + (wk_S j _ + (if nw_us N j = true ∧ nw_e N j = u ∧ nw_t N j = v ∧ L + nw_l N j < T then 1 else 0))
        rw [if_neg (fun h => hn ⟨h.1, h.2.1⟩), Nat.add_zero]
      · rw [h2]
        show _ = B1.length + (wk_S j _ + (if nw_us N j = true ∧ nw_e N j = u then 1 else 0))
        rw [if_neg hn, Nat.add_zero]
    cases hus : nw_us N j
    · rw [if_neg (by decide), nw_bd]
      exact hno (fun h => by rw [hus] at h; cases h.1)
    · rw [if_pos rfl, nw_ck (by omega) (by omega), nI_clamp (by omega), hr.1, hr.2.1, hr.2.2.1, nI_add]
      simp only [if_true]
      by_cases c : nw_e N j = u
      · rw [if_pos (by rw [c])]
        have hlen : B.length < 1201 := by
          have h5 : wk_S (j + 1) (fun e => if nw_us N e = true ∧ nw_e N e = u then 1 else 0) ≤ wk_S (nw_m N) (fun e => if nw_us N e = true ∧ nw_e N e = u then 1 else 0) := by
            obtain ⟨d, hd⟩ := Nat.exists_eq_add_of_le (show j + 1 ≤ nw_m N by omega)
            rw [hd]
            clear hd
            induction d with
            | zero => exact Nat.le_refl _
            | succ d ihd => exact Nat.le_trans ihd (Nat.le_add_right _ _)
          have h6 : wk_S (j + 1) (fun e => if nw_us N e = true ∧ nw_e N e = u then 1 else 0) = wk_S j (fun e => if nw_us N e = true ∧ nw_e N e = u then 1 else 0) + 1 := by
            show wk_S j _ + (if nw_us N j = true ∧ nw_e N j = u then 1 else 0) = _
            rw [if_pos ⟨hus, c⟩]
          omega
        unfold f_X8_waitsAt
        rw [hB.1, nw_ck (by omega) (by omega), nI_clamp (by omega), nI_1]
        simp only [if_true, nw_bd]
        have hf1 : nw_f (fun k j => (k == 35 && j == 33) || (k == 51 || k == 52)) σ (jv_si (jv_si (jv_si σ 52 B.length (nI (nw_t N j))) 51 B.length (nI (L + nw_l N j))) 35 33 (nI (B.length + 1))) := ((nw_f.rfl.si (by rfl)).si (by rfl)).si (by rfl)
        obtain ⟨B2, τ, z, g1, g2, g3, g4⟩ := ih (j + 1) f (B ++ [(nw_t N j, L + nw_l N j)]) _ (by omega) hg (hf1.keepM hM (fun k j hk => by
            simp only [nw_pM, Bool.or_eq_true, Bool.and_eq_true, beq_iff_eq, Bool.or_eq_false_iff, Bool.and_eq_false_iff, beq_eq_false_iff_ne] at hk ⊢
            omega)) ⟨by rw [nw_gs, List.length_append, List.length_singleton], fun i q hq => by
            by_cases ci : i < B.length
            · rw [List.getElem?_append_left ci] at hq
              refine ⟨?_, ?_⟩
              · rw [nw_gn (by decide), nw_gn (by decide), nw_gj (by omega), (hB.2 i q hq).1]
              · rw [nw_gn (by decide), nw_gj (by omega), nw_gn (by decide), (hB.2 i q hq).2]
            · rw [List.getElem?_append_right (by omega)] at hq
              have ci0 : i = B.length := by
                have := (List.getElem?_eq_some_iff.mp hq).1
                simp at this
                omega
              subst ci0
              rw [Nat.sub_self, List.getElem?_cons_zero] at hq
              cases hq
              exact ⟨by rw [nw_gn (by decide), nw_gn (by decide), nw_gs], by rw [nw_gn (by decide), nw_gs]⟩⟩ (fun v T => by
            unfold nw_bc
            rw [List.countP_append]
            have := h1 v T
            unfold nw_bc at this
            rw [this]
            show _ = _ + (wk_S j _ + (if nw_us N j = true ∧ nw_e N j = u ∧ nw_t N j = v ∧ L + nw_l N j < T then 1 else 0))
            rw [Nat.add_assoc]
            refine congrArg _ (congrArg _ ?_)
            by_cases c2 : nw_t N j = v ∧ L + nw_l N j < T
            · rw [if_pos ⟨hus, c, c2⟩]; simp [c2.1, c2.2]
            · rw [if_neg (fun h => c2 h.2.2)]
              rw [List.countP_eq_zero]
              intro q hq
              rw [List.mem_singleton.mp hq]
              simpa using c2) (by
            rw [List.length_append, List.length_singleton, h2]
            show _ = B1.length + (wk_S j _ + (if nw_us N j = true ∧ nw_e N j = u then 1 else 0))
            rw [if_pos ⟨hus, c⟩, Nat.add_assoc]) (fun q hq => by
            rcases List.mem_append.mp hq with hq | hq
            · exact h3 q hq
            · exact Or.inr ⟨j, hjm, List.mem_singleton.mp hq⟩)
        exact ⟨B2, τ, z, g1, hf1.trans g2, g3, g4⟩
      · rw [if_neg (fun h => c ((nI_eq (by omega) (by omega)).mp h)), nw_bd]
        exact hno (fun h => c h.2)
theorem nw_pop {B : List (Nat × Nat)} {i : Nat} {z w : Nat × Nat} (hz : B[B.length - 1]? = some z) (hw : B[i]? = some w) (hi : i < B.length) : ∃ B1 : List (Nat × Nat), B.length = B1.length + 1 ∧ (∀ v T, nw_bc B v T = nw_bc B1 v T + if v = w.1 ∧ w.2 < T then 1 else 0) ∧ (∀ q ∈ B1, q ∈ B) ∧ ∀ a q, B1[a]? = some q → (a = i → q = z) ∧ (a ≠ i → B[a]? = some q) := by
  have hl : 0 < B.length := by omega
  have hbc : ∀ (l : List (Nat × Nat)) (v T : Nat), nw_bc (l ++ [w]) v T = nw_bc l v T + if v = w.1 ∧ w.2 < T then 1 else 0 := fun l v T => by
    unfold nw_bc
    rw [List.countP_append]
    refine congrArg _ ?_
    by_cases c : v = w.1 ∧ w.2 < T
    · rw [if_pos c]; simp [c.1, c.2]
    · rw [if_neg c, List.countP_eq_zero]
      intro q hq
      rw [List.mem_singleton.mp hq]
      simp only [Bool.and_eq_true, beq_iff_eq, decide_eq_true_eq]
      exact fun h => c ⟨h.1.symm, h.2⟩
  by_cases c : i = B.length - 1
  · subst c
    rw [hz] at hw
    cases hw
    have hB : B = B.dropLast ++ [z] := by
      have hne : B ≠ [] := by rintro rfl; simp at hl
      have := List.dropLast_concat_getLast hne
      rw [List.getLast_eq_getElem] at this
      obtain ⟨h1, h2⟩ := List.getElem?_eq_some_iff.mp hz
      rw [h2] at this
      exact this.symm
    refine ⟨B.dropLast, by rw [List.length_dropLast]; omega, fun v T => ?_, fun q hq => (List.dropLast_sublist _).subset hq, fun a q hq => ?_⟩
    · rw [← hbc, ← hB]
    · have h1 := (List.getElem?_eq_some_iff.mp hq).1
      rw [List.length_dropLast] at h1
      refine ⟨fun h => by omega, fun _ => ?_⟩
      rw [hB, List.getElem?_append_left (by rw [List.length_dropLast]; exact h1)]
      exact hq
  · refine ⟨(B.set i z).dropLast, by rw [List.length_dropLast, List.length_set]; omega, fun v T => ?_, fun q hq => ?_, fun a q hq => ?_⟩
    · have hne : B.set i z ≠ [] := fun h => by
        have h9 : (B.set i z).length = 0 := by rw [h]; rfl
        rw [List.length_set] at h9
        omega
      have h3 := List.dropLast_concat_getLast hne
      have h4 : (B.set i z).getLast hne = z := by
        rw [List.getLast_eq_getElem]
        obtain ⟨h1, h2⟩ := List.getElem?_eq_some_iff.mp hz
        simp only [List.length_set]
        rw [List.getElem_set_ne (by omega)]
        exact h2
      rw [h4] at h3
      have h5 : nw_bc (B.set i z) v T = nw_bc (B.set i z).dropLast v T + nw_bc [z] v T := by
        unfold nw_bc
        rw [← List.countP_append, h3]
      obtain ⟨i1, i2⟩ := List.getElem?_eq_some_iff.mp hw
      have h6 : nw_bc (B.set i z) v T + nw_bc [w] v T = nw_bc B v T + nw_bc [z] v T := by
        unfold nw_bc
        rw [List.countP_set i1, i2]
        have h7 : (if (w.1 == v && decide (w.2 < T)) = true then 1 else 0) ≤ B.countP (fun q => q.1 == v && decide (q.2 < T)) := by
          by_cases c2 : (w.1 == v && decide (w.2 < T)) = true
          · rw [if_pos c2]
            exact List.countP_pos_iff.mpr ⟨w, List.mem_of_getElem? hw, c2⟩
          · rw [if_neg c2]; exact Nat.zero_le _
        rw [List.countP_singleton, List.countP_singleton]
        omega
      have h8 := hbc [] v T
      rw [List.nil_append] at h8
      have h9 : nw_bc [] v T = 0 := rfl
      omega
    · have h1 := (List.dropLast_sublist _).subset hq
      rcases List.mem_or_eq_of_mem_set h1 with h | rfl
      · exact h
      · exact List.mem_of_getElem? hz
    · have h1 := (List.getElem?_eq_some_iff.mp hq).1
      rw [List.length_dropLast, List.length_set] at h1
      rw [List.getElem?_dropLast, if_pos (by rw [List.length_set]; exact h1)] at hq
      refine ⟨fun h => ?_, fun h => ?_⟩
      · subst h
        rw [List.getElem?_set_self (by omega)] at hq
        cases hq; rfl
      · rw [List.getElem?_set_ne (fun h2 => h h2.symm)] at hq
        exact hq
/-- the reference's rows -/
def nw_RK (cnt : Nat → Nat) (ln : Nat → Nat → Nat) (σ : jv_S) : Prop := (∀ v, v < 10 → σ.1 50 v = nI (cnt v)) ∧ ∀ v, v < 10 → ∀ r, r < cnt v → σ.1 49 (50 * v + r) = nI (ln v r)
theorem nw_lp32 (hW : nw_W N) : ∀ (k fuel : Nat) (cnt : Nat → Nat) (ln : Nat → Nat → Nat) (B : List (Nat × Nat)) (σ : jv_S), B.length + wk_S (nw_m N) (fun e => if nw_us N e = true then 50 - cnt (nw_e N e) else 0) ≤ k → k < fuel → nw_M N σ → nw_bg B σ → nw_RK cnt ln σ → nw_R N to cnt ln B →
    ∃ τ cnt' ln', f_X8_laysFirsts_lp32 fuel σ = some τ ∧ nw_f nw_pF σ τ ∧ nw_RK cnt' ln' τ ∧ nw_R N to cnt' ln' [] := by
  intro k
  have hn := hW.n
  induction k with
  | zero =>
    intro fuel cnt ln B σ hk hf hM hB hK hR
    obtain ⟨f, rfl⟩ := nw_f0 hf
    have : B = [] := List.length_eq_zero_iff.mp (by omega)
    subst this
    exact ⟨σ, cnt, ln, by rw [f_X8_laysFirsts_lp32, hB.1, if_pos (show nI ([] : List (Nat × Nat)).length ≤ 0 by decide)], nw_f.rfl, hK, hR⟩
  | succ k ih =>
    intro fuel cnt ln B σ hk hf hM hB hK hR
    obtain ⟨f, rfl, hg⟩ := nw_fe hf
    by_cases c0 : B.length = 0
    · have : B = [] := List.length_eq_zero_iff.mp c0
      subst this
      exact ⟨σ, cnt, ln, by rw [f_X8_laysFirsts_lp32, hB.1, if_pos (show nI ([] : List (Nat × Nat)).length ≤ 0 by decide)], nw_f.rfl, hK, hR⟩
    · have hlen : B.length ≤ 1201 := by have := hR.2.2.2; omega
      have hbd : ∀ q ∈ B, q.2 ≤ 1201000 := fun q hq => by have := (hR.2.2.1 q hq).2; omega
      obtain ⟨i, z1, g1, g2, g3⟩ := nw_lp43 hB hlen hbd (B.length - 1) 1 0 jv_fuel (by omega) (nw_fu (by omega)) (by omega) (fun a q w ha hq hw => by
        have : a = 0 := by omega
        subst this
        rw [hq] at hw; cases hw; exact Nat.le_refl _)
      have hw : B[i]? = some B[i] := List.getElem?_eq_getElem g2
      have hz : B[B.length - 1]? = some B[B.length - 1] := List.getElem?_eq_getElem (by omega)
      have hwm := List.mem_of_getElem? hw
      have hu := (hR.2.2.1 _ hwm).1
      have hLb := hbd _ hwm
      obtain ⟨B1, p1, p2, p3, p4⟩ := nw_pop hz hw g2
      have hmin : ∀ q ∈ B, B[i].2 ≤ q.2 := fun q hq => by
        obtain ⟨a, ha⟩ := List.mem_iff_getElem?.mp hq
        exact g3 a q _ ha hw
      have hcu := (hR.1 _ hu).1
      rw [f_X8_laysFirsts_lp32, hB.1, if_neg (nI_nle (by omega) (by omega)), show f_X8_laysFirsts_lp43 jv_fuel (0 : Int32) (1 : Int32) σ = _ from g1, nw_bd, nw_ck (by omega) (by omega), show nI B.length - (1 : Int32) = nI (B.length - 1) by rw [show (1 : Int32) = nI 1 from rfl, pk_sub (by omega)], nw_ck (by omega) (by omega), nI_clamp (by omega), nI_clamp (by omega), (hB.2 _ _ hw).1, (hB.2 _ _ hw).2, (hB.2 _ _ hz).1, (hB.2 _ _ hz).2, nw_ck hu (by omega), nI_clamp (by omega), hK.1 _ hu]
      simp only [if_true]
      have hB1 : nw_bg B1 (jv_si (jv_si (jv_si σ 35 33 (nI (B.length - 1))) 52 i (nI B[B.length - 1].1)) 51 i (nI B[B.length - 1].2)) := by
        refine ⟨by rw [nw_gn (by decide), nw_gn (by decide), nw_gs, p1]; rfl, fun a q hq => ?_⟩
        obtain ⟨q1, q2⟩ := p4 a q hq
        by_cases c : a = i
        · subst c
          rw [q1 rfl]
          exact ⟨by rw [nw_gn (by decide), nw_gs], nw_gs⟩
        · have := hB.2 a q (q2 c)
          exact ⟨by rw [nw_gn (by decide), nw_gj c, nw_gn (by decide), this.1], by rw [nw_gj c, nw_gn (by decide), nw_gn (by decide), this.2]⟩
      have hf1 : nw_f nw_pF σ (jv_si (jv_si (jv_si σ 35 33 (nI (B.length - 1))) 52 i (nI B[B.length - 1].1)) 51 i (nI B[B.length - 1].2)) := ((nw_f.rfl.si (by rfl)).si (by rfl)).si (by rfl)
      by_cases c1 : 50 ≤ cnt B[i].1
      · rw [if_pos (show (50 : Int32) ≤ nI (cnt B[i].1) from nI_le (a := 50) c1 (by omega)), nw_bd]
        obtain ⟨τ, cnt', ln', k1, k2, k3, k4⟩ := ih f cnt ln B1 _ (by omega) hg (hf1.keepM hM nw_pF_M) hB1 ⟨by rw [nw_gn (by decide), nw_gn (by decide), nw_gn (by decide)]; exact hK.1, by rw [nw_gn (by decide), nw_gn (by decide), nw_gn (by decide)]; exact hK.2⟩ (nw_Rd hR p2 (by omega) p1 p3)
        exact ⟨τ, cnt', ln', k1, hf1.trans k2, k3, k4⟩
      · rw [if_neg (show ¬ (50 : Int32) ≤ nI (cnt B[i].1) from nI_ge (b := 50) (by omega) (by omega)), show (50 : Int32) = nI 50 from rfl, pk_mul, nI_add, nw_ck (by omega) (by omega), nI_clamp (by omega), nI_1]
        simp only [if_true]
        have hpot : wk_S (nw_m N) (fun e => if nw_us N e = true then 50 - nw_u1 cnt B[i].1 (cnt B[i].1 + 1) (nw_e N e) else 0) + wk_S (nw_m N) (fun e => if nw_us N e = true ∧ nw_e N e = B[i].1 then 1 else 0) = wk_S (nw_m N) (fun e => if nw_us N e = true then 50 - cnt (nw_e N e) else 0) := by
          rw [← wk_S_add]
          refine wk_S_congr (fun e _ => ?_)
          by_cases c1 : nw_us N e = true
          · by_cases c2 : nw_e N e = B[i].1
            · rw [if_pos c1, if_pos ⟨c1, c2⟩, if_pos c1, c2, nw_u1s]; omega
            · rw [if_pos c1, if_neg (fun h => c2 h.2), if_pos c1, nw_u1n c2]; omega
          · rw [if_neg c1, if_neg (fun h => c1 h.1), if_neg c1]
        have hpb := hR.2.2.2
        have hf2 := (hf1.si (k := 49) (j := 50 * B[i].1 + cnt B[i].1) (x := nI B[i].2) (by rfl)).si (k := 50) (j := B[i].1) (x := nI (cnt B[i].1 + 1)) (by rfl)
        obtain ⟨B2, τ, z, r1, r2, r3, r4, r5, r6⟩ := nw_lp175 hW (u := B[i].1) (L := B[i].2) (B1 := B1) hu (by omega) (nw_m N) 0 jv_fuel B1 _ (by omega) (nw_fu (by omega)) (hf2.keepM hM nw_pF_M) ⟨by rw [nw_gn (by decide), nw_gn (by decide)]; exact hB1.1, fun a q hq => by
            rw [nw_gn (k := 50) (k' := 52) (by decide), nw_gn (k := 49) (k' := 52) (by decide), nw_gn (k := 50) (k' := 51) (by decide), nw_gn (k := 49) (k' := 51) (by decide)]
            exact hB1.2 a q hq⟩ (fun v T => by rfl) (by rfl) (fun q hq => Or.inl hq)
        rw [show f_X8_laysFirsts_lp175 (nI B[i].1) (nI B[i].2) jv_fuel (0 : Int32) _ = _ from r1, nw_bd, nw_bd]
        have hf3 : nw_f nw_pF σ τ := hf2.trans (r2.mono (fun k j h => by
          simp only [nw_pF, Bool.or_eq_true, Bool.and_eq_true, beq_iff_eq, Bool.or_eq_false_iff, Bool.and_eq_false_iff, beq_eq_false_iff_ne] at h ⊢
          omega))
        have hR2 := nw_Rs hW hR hu hmin hwm p2 (by omega) r4 p1 r5 p3 r6
        have hRK : nw_RK (nw_u1 cnt B[i].1 (cnt B[i].1 + 1)) (nw_u2 ln B[i].1 (cnt B[i].1) B[i].2) τ := by
          refine ⟨fun v hv => ?_, fun v hv r hr => ?_⟩
          · rw [(r2.lng (k := 50) (fun _ => rfl)).1]
            by_cases c : v = B[i].1
            · rw [c, nw_gs, nw_u1s]
            · rw [nw_gj c, nw_u1n c, nw_gn (by decide), nw_gn (by decide), nw_gn (by decide), nw_gn (by decide), hK.1 v hv]
          · rw [(r2.lng (k := 49) (fun _ => rfl)).1, nw_gn (by decide)]
            by_cases c : v = B[i].1 ∧ r = cnt B[i].1
            · obtain ⟨c2, c3⟩ := c
              rw [c2, c3, nw_gs, nw_u2s]
            · have hq : v ≠ B[i].1 ∨ r ≠ cnt B[i].1 := by omega
              have hr' : r < cnt v := by
                by_cases c2 : v = B[i].1
                · rw [c2, nw_u1s] at hr; rw [c2]; omega
                · rw [nw_u1n c2] at hr; exact hr
              have := (hR.1 v hv).1
              rw [nw_u2n hq, nw_gj (by omega), nw_gn (by decide), nw_gn (by decide), nw_gn (by decide), hK.2 v hv r hr']
        obtain ⟨ρ, cnt', ln', k1, k2, k3, k4⟩ := ih f _ _ B2 τ (by omega) hg (hf3.keepM hM nw_pF_M) r3 hRK hR2
        exact ⟨ρ, cnt', ln', k1, hf3.trans k2, k3, k4⟩
theorem nw_lp2 : ∀ (k j fuel : Nat) (σ : jv_S) (a : Int32), j + k = 10 → k < fuel → (∀ v, v < j → σ.1 50 v = nI 0) → ∃ τ z, f_X8_laysFirsts_lp2 a fuel (nI j) σ = some (z, τ) ∧ nw_f (nw_r 50) σ τ ∧ ∀ v, v < 10 → τ.1 50 v = nI 0 := by
  intro k
  induction k with
  | zero =>
    intro j fuel σ a hj hf h
    obtain ⟨f, rfl⟩ := nw_f0 hf
    have hj : j = 10 := by omega
    subst hj
    exact ⟨σ, nI 10, by rw [f_X8_laysFirsts_lp2, if_pos (show (10 : Int32) ≤ nI 10 from nI_le (Nat.le_refl _) (by omega))], nw_f.rfl, h⟩
  | succ k ih =>
    intro j fuel σ a hj hf h
    obtain ⟨f, rfl, hg⟩ := nw_fe hf
    rw [f_X8_laysFirsts_lp2, if_neg (show ¬ (10 : Int32) ≤ nI j from nI_ge (b := 10) (by omega) (by omega)), nw_ck (by omega) (by omega), nI_clamp (by omega), nI_1, if_pos rfl]
    obtain ⟨τ, z, g1, g2, g3⟩ := ih (j + 1) f (jv_si σ 50 j (0 : Int32)) a (by omega) hg (fun v hv => by
      by_cases c : v = j
      · subst c; rw [nw_gs]; rfl
      · rw [nw_gj c, h v (by omega)])
    exact ⟨τ, z, g1, (nw_f.rfl.si nw_r_t).trans g2, g3⟩
theorem nw_firsts (hW : nw_W N) {σ : jv_S} (hM : nw_M N σ) (hto : to < 10) : ∃ τ cnt ln, f_X8_laysFirsts σ (nI to) = some τ ∧ nw_f nw_pF σ τ ∧ nw_RK cnt ln τ ∧ nw_R N to cnt ln [] := by
  obtain ⟨τ, z, g1, g2, g3⟩ := nw_lp2 10 0 jv_fuel σ (nI to) rfl (nw_fu (by omega)) (fun v hv => by omega)
  have hf1 : nw_f nw_pF σ τ := g2.mono (fun k j h => by
    simp only [nw_pF, nw_r, Bool.or_eq_false_iff] at h ⊢
    exact h.2.1.1.2)
  have hf2 : nw_f nw_pF σ (jv_si (jv_si (jv_si (jv_si τ 35 33 (0 : Int32)) 52 0 (nI to)) 51 0 (0 : Int32)) 35 33 (nI 1)) := (((hf1.si (by rfl)).si (by rfl)).si (by rfl)).si (by rfl)
  obtain ⟨ρ, cnt, ln, k1, k2, k3, k4⟩ := nw_lp32 (to := to) hW (1 + wk_S (nw_m N) (fun e => if nw_us N e = true then 50 - 0 else 0)) jv_fuel (fun _ => 0) (fun _ _ => 0) [(to, 0)] (jv_si (jv_si (jv_si (jv_si τ 35 33 (0 : Int32)) 52 0 (nI to)) 51 0 (0 : Int32)) 35 33 (nI 1)) (Nat.le_refl _) (nw_fu (by have := (nw_R0 hW hto (ln := fun _ _ => 0)).2.2.2; dsimp only [List.length_singleton] at this; omega)) (hf2.keepM hM nw_pF_M) ⟨by rw [nw_gs]; rfl, fun i q hq => by
      have : i = 0 := by have := (List.getElem?_eq_some_iff.mp hq).1; simp at this; exact this
      subst this
      rw [List.getElem?_cons_zero] at hq
      cases hq
      exact ⟨by rw [nw_gn (by decide), nw_gn (by decide), nw_gs], by rw [nw_gn (by decide), nw_gs]; rfl⟩⟩ ⟨fun v hv => by rw [nw_gn (by decide), nw_gn (by decide), nw_gn (by decide), nw_gn (by decide), g3 v hv], fun v hv r hr => absurd hr (Nat.not_lt_zero _)⟩ (nw_R0 hW hto)
  refine ⟨ρ, cnt, ln, ?_, hf2.trans k2, k3, k4⟩
  unfold f_X8_laysFirsts f_X8_waitsAt
  rw [show f_X8_laysFirsts_lp2 (nI to) jv_fuel (0 : Int32) σ = _ from g1, nw_bd]
  have e1 : (jv_si τ 35 33 (0 : Int32)).1 35 33 = nI 0 := nw_gs
  simp only [e1, nw_ck (show 0 < 1202 by omega) (by omega), if_true, nI_clamp (show 0 < 2 ^ 31 by omega), nw_bd, nI_1]
  rw [k1, nw_bd]
end NWR
