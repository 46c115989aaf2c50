/-! ===== the reference's flow ===== -/
def nw_rp2 (p : Nat) : Nat := p / 2 + (if p % 2 = 1 then 10 else 0)
theorem nw_rp2_lt {p : Nat} (h : p < 20) : nw_rp2 p < 20 := by unfold nw_rp2; split <;> omega
theorem nw_rp2_inj {p q : Nat} (hp : p < 20) (hq : q < 20) (h : nw_rp2 p = nw_rp2 q) : p = q := by unfold nw_rp2 at h; split at h <;> split at h <;> omega
theorem nw_rp2_e (v : Nat) : nw_rp2 (2 * v) = v := by unfold nw_rp2; rw [if_neg (by omega)]; omega
theorem nw_rp2_o (v : Nat) : nw_rp2 (2 * v + 1) = 10 + v := by unfold nw_rp2; rw [if_pos (by omega)]; omega
def nw_JL (N : nw_N) : List Nat := (List.range' 0 (nw_n N)).map (fun v => 24 + v) ++ (List.range' 0 (nw_m N)).filter (fun e => nw_us N e)
def nw_KB (N : nw_N) (fr to : Nat) (ap : Bool) (J : List Nat) (x : Nat → Nat) (σ : jv_S) : Prop := σ.1 35 38 = nI (2 * J.length) ∧ ∀ j a, J[j]? = some a → (σ.1 53 (2 * j) = nI (nw_rp2 (nw_tl N a)) ∧ σ.1 54 (2 * j) = nI (nw_rp2 (nw_hd N a)) ∧ σ.1 55 (2 * j) = nI (nw_uB N fr to ap a - x a) ∧ σ.1 56 (2 * j) = nI (nw_cc N a)) ∧ σ.1 53 (2 * j + 1) = nI (nw_rp2 (nw_hd N a)) ∧ σ.1 54 (2 * j + 1) = nI (nw_rp2 (nw_tl N a)) ∧ σ.1 55 (2 * j + 1) = nI (x a) ∧ σ.1 56 (2 * j + 1) = -(nI (nw_cc N a))
def nw_rC (N : nw_N) (s : Nat) (b : nw_B) (σ : jv_S) : Prop := (∀ p, p < 20 → σ.1 57 (nw_rp2 p) = nI (b.1 p)) ∧ ∀ p, p < 20 → b.1 p < 1000000000 → p ≠ s → ∃ j, (nw_JL N)[j]? = some (b.2.1 p).1 ∧ σ.1 58 (nw_rp2 p) = nI (2 * j + if (b.2.1 p).2 = true then 0 else 1)
def nw_pU (k _ : Nat) : Bool := k == 57 || k == 58
section NWU
variable {N : nw_N} {fr to : Nat} {ap : Bool} {x : Nat → Nat} {π : Nat → Int} {k : Nat}
theorem nw_KB.keep {J : List Nat} {σ τ : jv_S} (h : nw_KB N fr to ap J x σ) (hf : nw_f nw_pU σ τ) : nw_KB N fr to ap J x τ := by
  have e : ∀ k, k ≠ 57 → k ≠ 58 → τ.1 k = σ.1 k := fun k a b => (hf.lng (k := k) (fun j => by simp [nw_pU, a, b])).1
  unfold nw_KB at *
  rw [e 35 (by decide) (by decide), e 53 (by decide) (by decide), e 54 (by decide) (by decide), e 55 (by decide) (by decide), e 56 (by decide) (by decide)]
  exact h
theorem nw_JL_len (hW : nw_W N) : (nw_JL N).length ≤ 34 := by
  have hn := hW.n
  unfold nw_JL
  rw [List.length_append, List.length_map, List.length_range']
  have := List.length_filter_le (fun e => nw_us N e) (List.range' 0 (nw_m N))
  rw [List.length_range'] at this
  omega
theorem nw_JL_mem {a : Nat} (hW : nw_W N) : a ∈ nw_JL N ↔ (24 ≤ a ∧ a < 24 + nw_n N) ∨ (a < nw_m N ∧ nw_us N a = true) := by
  unfold nw_JL
  rw [List.mem_append, List.mem_map, List.mem_filter, nw_rgm]
  constructor
  · rintro (⟨v, hv, rfl⟩ | ⟨h1, h2⟩)
    · rw [nw_rgm] at hv; left; omega
    · right; exact ⟨by omega, h2⟩
  · rintro (⟨h1, h2⟩ | ⟨h1, h2⟩)
    · left; exact ⟨a - 24, by rw [nw_rgm]; omega, by omega⟩
    · right; exact ⟨by omega, h2⟩
theorem nw_JL_pw (hW : nw_W N) : (nw_JL N).Pairwise (fun a b => a ≠ b) := by
  have hn := hW.n
  unfold nw_JL
  rw [List.pairwise_append]
  refine ⟨?_, ?_, fun a ha b hb => ?_⟩
  · rw [List.pairwise_map]
    exact List.Pairwise.imp (fun {a b} h => by omega) (List.pairwise_lt_range' (s := 0) (n := nw_n N))
  · exact List.Pairwise.imp (fun {a b} h => by omega) (List.Pairwise.filter _ (List.pairwise_lt_range' (s := 0) (n := nw_m N)))
  · obtain ⟨v, hv, rfl⟩ := List.mem_map.mp ha
    have := (List.mem_filter.mp hb).1
    rw [nw_rgm] at this
    omega
theorem nw_JL_inj (hW : nw_W N) {i j a : Nat} (hi : (nw_JL N)[i]? = some a) (hj : (nw_JL N)[j]? = some a) : i = j := by
  obtain ⟨hi1, hi2⟩ := List.getElem?_eq_some_iff.mp hi
  obtain ⟨hj1, hj2⟩ := List.getElem?_eq_some_iff.mp hj
  have hp := List.pairwise_iff_getElem.mp (nw_JL_pw hW)
  rcases Nat.lt_trichotomy i j with e | e | e
  · exact absurd (hi2.trans hj2.symm) (hp i j hi1 hj1 e)
  · exact e
  · exact absurd (hj2.trans hi2.symm) (hp j i hj1 hi1 e)
theorem nw_uB_pos (hW : nw_W N) {a : Nat} (ha : a < 34) (h : 0 < nw_uB N fr to ap a) : ∃ j : Nat, (nw_JL N)[j]? = some a := by
  refine List.mem_iff_getElem?.mp ((nw_JL_mem hW).mpr ?_)
  unfold nw_uB at h
  by_cases c : a < 24
  · rw [if_pos c] at h
    by_cases c2 : a < nw_m N ∧ nw_us N a = true
    · exact Or.inr c2
    · rw [if_neg c2] at h; omega
  · rw [if_neg c] at h
    by_cases c2 : nw_n N ≤ a - 24
    · rw [if_pos c2] at h; omega
    · left; omega
theorem nw_uBb {a : Nat} : nw_uB N fr to ap a ≤ 24 := by
  unfold nw_uB
  split
  · split <;> omega
  · split
    · omega
    · split <;> omega
theorem nw_JL_34 (hW : nw_W N) {j a : Nat} (h : (nw_JL N)[j]? = some a) : a < 34 ∧ j < 34 ∧ 0 < nw_uB N fr to ap a := by
  have hn := hW.n
  have h1 := (nw_JL_mem hW).mp (List.mem_of_getElem? h)
  have h2 := (List.getElem?_eq_some_iff.mp h).1
  have h3 := nw_JL_len hW
  refine ⟨by omega, by omega, ?_⟩
  unfold nw_uB
  rcases h1 with ⟨h1, h4⟩ | h1
  · rw [if_neg (by omega), if_neg (by omega)]; split <;> omega
  · rw [if_pos (by omega), if_pos h1]; omega
theorem nw_f42 (hW : nw_W N) (hfr : fr < nw_n N) (hto : to < nw_n N) (hG : nw_G (nw_tl N) (nw_hd N) (nw_cc N) (nw_uB N fr to ap) (2 * fr) (2 * to + 1) k x π) {a1 a2 : Int32} : ∀ (r i fuel : Nat) (c : Bool) (σ : jv_S) (b : nw_B), i + r = 2 * (nw_JL N).length → r < fuel → nw_KB N fr to ap (nw_JL N) x σ → nw_BI (nw_tl N) (nw_hd N) (nw_cc N) (nw_uB N fr to ap) x (2 * fr) π b → nw_rC N (2 * fr) b σ →
    ∃ τ c' z b', f_X8_flows_lp42 a1 a2 fuel c (nI i) σ = some (c', z, τ) ∧ nw_f nw_pU σ τ ∧ nw_rC N (2 * fr) b' τ ∧ nw_BI (nw_tl N) (nw_hd N) (nw_cc N) (nw_uB N fr to ap) x (2 * fr) π b' ∧ (∀ p, b'.1 p ≤ b.1 p) ∧ (∀ j a d, (nw_JL N)[j]? = some a → i ≤ 2 * j + (if d = true then 0 else 1) → nw_re (nw_uB N fr to ap) x (a, d) → b.1 (nw_fr (nw_tl N) (nw_hd N) (a, d)) < 1000000000 → (b'.1 (nw_to (nw_tl N) (nw_hd N) (a, d)) : Int) ≤ (b.1 (nw_fr (nw_tl N) (nw_hd N) (a, d)) : Int) + nw_cq (nw_cc N) (a, d)) ∧ (c' = false → c = false ∧ b' = b) ∧ (c' = true → c = true ∨ wk_S 20 b'.1 < wk_S 20 b.1) := by
  have hN := nw_gntB (ap := ap) hW hfr hto
  have hJ := nw_JL_len hW
  intro r
  induction r with
  | zero =>
    intro i fuel c σ b hi hf hK hI hr
    obtain ⟨f, rfl⟩ := nw_f0 hf
    have hi : i = 2 * (nw_JL N).length := by omega
    subst hi
    refine ⟨σ, c, _, b, by rw [f_X8_flows_lp42, hK.1, if_pos (nI_le (Nat.le_refl _) (by omega))], nw_f.rfl, hr, hI, fun _ => Nat.le_refl _, fun j a d hj h => ?_, fun h => ⟨h, rfl⟩, fun h => Or.inl h⟩
    have := (List.getElem?_eq_some_iff.mp hj).1
    split at h <;> omega
  | succ r ih =>
    intro i fuel c σ b hi hf hK hI hr
    obtain ⟨f, rfl, hg⟩ := nw_fe hf
    -- the arc and its direction
    obtain ⟨j, d, hjd⟩ : ∃ (j : Nat) (d : Bool), i = 2 * j + (if d = true then 0 else 1) := ⟨i / 2, decide (i % 2 = 0), by by_cases e : i % 2 = 0 <;> simp [e] <;> omega⟩
    have hjl : j < (nw_JL N).length := by cases d <;> simp at hjd <;> omega
    obtain ⟨a, ha⟩ : ∃ a, (nw_JL N)[j]? = some a := ⟨_, List.getElem?_eq_getElem hjl⟩
    obtain ⟨ha34, hj34, hua⟩ := nw_JL_34 (fr := fr) (to := to) (ap := ap) hW ha
    have hub := nw_uBb (N := N) (fr := fr) (to := to) (ap := ap) (a := a)
    have hxu := hG.1 a ha34
    obtain ⟨n1, n2, n3, n4⟩ := hN.1 a ha34 hua
    obtain ⟨⟨k1, k2, k3, k4⟩, k5, k6, k7, k8⟩ := hK.2 j a ha
    have hi68 : i < 68 := by cases d <;> simp at hjd <;> omega
    -- what stands there
    have r53 : σ.1 53 i = nI (nw_rp2 (nw_fr (nw_tl N) (nw_hd N) (a, d))) := by cases d <;> simp only [hjd] <;> first | exact k1 | exact k5
    have r54 : σ.1 54 i = nI (nw_rp2 (nw_to (nw_tl N) (nw_hd N) (a, d))) := by cases d <;> simp only [hjd] <;> first | exact k2 | exact k6
    have r55 : ∃ w, σ.1 55 i = nI w ∧ w ≤ 24 ∧ (0 < w ↔ nw_re (nw_uB N fr to ap) x (a, d)) := by
      cases d
      · refine ⟨x a, by rw [hjd]; exact k7, by omega, fun h => ⟨ha34, Or.inr ⟨rfl, h⟩⟩, fun h => ?_⟩
        rcases h.2 with ⟨e, _⟩ | ⟨_, h⟩
        · cases e
        · exact h
      · refine ⟨nw_uB N fr to ap a - x a, by rw [hjd]; exact k3, by omega, fun h => ⟨ha34, Or.inl ⟨rfl, by show x a < nw_uB N fr to ap a; omega⟩⟩, fun h => ?_⟩
        rcases h.2 with ⟨_, h⟩ | ⟨e, _⟩
        · have : x a < nw_uB N fr to ap a := h; omega
        · cases e
    have r56 : σ.1 56 i = nw_lq N (a, d) := by cases d <;> simp only [hjd] <;> first | exact k4 | exact k8
    obtain ⟨w, w1, w2, w3⟩ := r55
    have g1 : nw_fr (nw_tl N) (nw_hd N) (a, d) < 20 := by unfold nw_fr; cases d <;> simp <;> assumption
    have g2 : nw_to (nw_tl N) (nw_hd N) (a, d) < 20 := by unfold nw_to; cases d <;> simp <;> assumption
    have hl1 := nw_rp2_lt g1
    have hl2 := nw_rp2_lt g2
    have hbf := hI.2.1 _ g1
    have hbt := hI.2.1 _ g2
    rw [f_X8_flows_lp42, hK.1, if_neg (nI_ge (by omega) (by omega)), nw_ck hi68 (by omega), nI_clamp (by omega), w1, r53, r54, r56, nI_clamp (by omega), nI_clamp (by omega), nw_ck hl1 (by omega), nw_ck hl2 (by omega), hr.1 _ g1, hr.1 _ g2, nI_1]
    simp only [if_true]
    have hkeep : (nw_re (nw_uB N fr to ap) x (a, d) → b.1 (nw_fr (nw_tl N) (nw_hd N) (a, d)) < 1000000000 → (b.1 (nw_to (nw_tl N) (nw_hd N) (a, d)) : Int) ≤ (b.1 (nw_fr (nw_tl N) (nw_hd N) (a, d)) : Int) + nw_cq (nw_cc N) (a, d)) → ∃ τ c' z b', f_X8_flows_lp42 a1 a2 f c (nI (i + 1)) σ = some (c', z, τ) ∧ nw_f nw_pU σ τ ∧ nw_rC N (2 * fr) b' τ ∧ nw_BI (nw_tl N) (nw_hd N) (nw_cc N) (nw_uB N fr to ap) x (2 * fr) π b' ∧ (∀ p, b'.1 p ≤ b.1 p) ∧ (∀ j a d, (nw_JL N)[j]? = some a → i ≤ 2 * j + (if d = true then 0 else 1) → nw_re (nw_uB N fr to ap) x (a, d) → b.1 (nw_fr (nw_tl N) (nw_hd N) (a, d)) < 1000000000 → (b'.1 (nw_to (nw_tl N) (nw_hd N) (a, d)) : Int) ≤ (b.1 (nw_fr (nw_tl N) (nw_hd N) (a, d)) : Int) + nw_cq (nw_cc N) (a, d)) ∧ (c' = false → c = false ∧ b' = b) ∧ (c' = true → c = true ∨ wk_S 20 b'.1 < wk_S 20 b.1) := fun hc => by
      obtain ⟨τ, c', z, b', m1, m2, m3, m4, m5, m6, m7, m8⟩ := ih (i + 1) f c σ b (by omega) hg hK hI hr
      refine ⟨τ, c', z, b', m1, m2, m3, m4, m5, fun j' a' d' hj' hle hq hlt => ?_, m7, m8⟩
      by_cases e : i = 2 * j' + (if d' = true then 0 else 1)
      · have ed : d' = d := by cases d <;> cases d' <;> simp at hjd e <;> first | rfl | omega
        have ej : j' = j := by cases d <;> cases d' <;> simp at hjd e <;> omega
        subst ed; subst ej
        rw [ha] at hj'
        cases hj'
        have h1 := hc hq hlt
        have h2 := m5 (nw_to (nw_tl N) (nw_hd N) (a, d'))
        omega
      · exact m6 j' a' d' hj' (by omega) hq hlt
    by_cases c0 : w = 0
    · rw [if_pos (show nI w ≤ 0 by rw [c0]; decide), nw_bd]
      exact hkeep (fun hq => by have := w3.mpr hq; omega)
    · rw [if_neg (nI_nle (by omega) (by omega))]
      have hq := w3.mp (by omega)
      by_cases c1 : b.1 (nw_fr (nw_tl N) (nw_hd N) (a, d)) < 1000000000
      · rw [if_neg (show ¬ (1000000000 : Int32) ≤ nI (b.1 (nw_fr (nw_tl N) (nw_hd N) (a, d))) from nI_ge (b := 1000000000) c1 (by omega))]
        have hsl := nw_slack hG hq
        have hp2 := (hI.2.2.1 _ g1 c1).1
        have hpt := (hG.2.2.2.2 _ g2).1
        have hsm := nw_small hI g1 c1
        obtain ⟨_, _, gne, hcq⟩ := nw_re_pt hN hG.1 hq
        obtain ⟨v, hv⟩ : ∃ v : Nat, (v : Int) = (b.1 (nw_fr (nw_tl N) (nw_hd N) (a, d)) : Int) + nw_cq (nw_cc N) (a, d) := ⟨((b.1 (nw_fr (nw_tl N) (nw_hd N) (a, d)) : Int) + nw_cq (nw_cc N) (a, d)).toNat, by omega⟩
        have hsum : nI (b.1 (nw_fr (nw_tl N) (nw_hd N) (a, d))) + nw_lq N (a, d) = nI v := by
          unfold nw_lq
          unfold nw_cq at hv
          cases d
          · rw [if_neg (by simp)] at hv ⊢
            rw [← Int32.sub_eq_add_neg, pk_sub (by omega)]; congr 1; omega
          · rw [if_pos rfl] at hv ⊢
            rw [nI_add]; congr 1; omega
        rw [hsum]
        by_cases c2 : v < b.1 (nw_to (nw_tl N) (nw_hd N) (a, d))
        · rw [if_neg (nI_ge c2 (by omega)), nw_bd]
          have hI' := nw_BI_up hN hG hI hq c1 hv c2
          have hd' : ∀ p, (nw_up b (nw_to (nw_tl N) (nw_hd N) (a, d)) (a, d) v).1 p ≤ b.1 p := fun p => by
            show nw_u1 b.1 _ v p ≤ _
            by_cases e : p = nw_to (nw_tl N) (nw_hd N) (a, d)
            · rw [e, nw_u1s]; omega
            · rw [nw_u1n e]; exact Nat.le_refl _
          have hf1 : nw_f nw_pU σ (jv_si (jv_si σ 57 (nw_rp2 (nw_to (nw_tl N) (nw_hd N) (a, d))) (nI v)) 58 (nw_rp2 (nw_to (nw_tl N) (nw_hd N) (a, d))) (nI i)) := (nw_f.rfl.si (by rfl)).si (by rfl)
          obtain ⟨τ, c', z, b', m1, m2, m3, m4, m5, m6, m7, m8⟩ := ih (i + 1) f true _ _ (by omega) hg (hK.keep hf1) hI' ⟨fun p hp => by
              rw [nw_gn (by decide)]
              show _ = nI (nw_u1 b.1 _ v p)
              by_cases e : p = nw_to (nw_tl N) (nw_hd N) (a, d)
              · rw [e, nw_gs, nw_u1s]
              · rw [nw_gj (fun h => e (nw_rp2_inj hp g2 h)), nw_u1n e, hr.1 p hp], fun p hp hrp hps => by
              show ∃ j, (nw_JL N)[j]? = some (if p = nw_to (nw_tl N) (nw_hd N) (a, d) then (a, d) else b.2.1 p).1 ∧ _ = nI (2 * j + if (if p = nw_to (nw_tl N) (nw_hd N) (a, d) then (a, d) else b.2.1 p).2 = true then 0 else 1)
              have hrp' : nw_u1 b.1 (nw_to (nw_tl N) (nw_hd N) (a, d)) v p < 1000000000 := hrp
              by_cases e : p = nw_to (nw_tl N) (nw_hd N) (a, d)
              · rw [if_pos e]
                exact ⟨j, ha, by rw [e, nw_gs, hjd]⟩
              · rw [if_neg e]
                rw [nw_u1n e] at hrp'
                obtain ⟨j', h1, h2⟩ := hr.2 p hp hrp' hps
                exact ⟨j', h1, by rw [nw_gj (fun h => e (nw_rp2_inj hp g2 h)), nw_gn (by decide), h2]⟩⟩
          have hmu : wk_S 20 (nw_up b (nw_to (nw_tl N) (nw_hd N) (a, d)) (a, d) v).1 < wk_S 20 b.1 := nw_S_lt (fun p _ => hd' p) g2 (by show nw_u1 b.1 _ v _ < _; rw [nw_u1s]; exact c2)
          have hmu2 : wk_S 20 b'.1 ≤ wk_S 20 (nw_up b (nw_to (nw_tl N) (nw_hd N) (a, d)) (a, d) v).1 := wk_S_le (fun p _ => m5 p)
          refine ⟨τ, c', z, b', m1, hf1.trans m2, m3, m4, fun p => Nat.le_trans (m5 p) (hd' p), fun j' a' d' hj' hle hq' hlt => ?_, fun h => absurd (m7 h).1 (by decide), fun _ => Or.inr (by omega)⟩
          by_cases e : i = 2 * j' + (if d' = true then 0 else 1)
          · have ed : d' = d := by cases d <;> cases d' <;> simp at hjd e <;> first | rfl | omega
            have ej : j' = j := by cases d <;> cases d' <;> simp at hjd e <;> omega
            subst ed; subst ej
            rw [ha] at hj'
            cases hj'
            have h2 := m5 (nw_to (nw_tl N) (nw_hd N) (a, d'))
            have h3 : (nw_up b (nw_to (nw_tl N) (nw_hd N) (a, d')) (a, d') v).1 (nw_to (nw_tl N) (nw_hd N) (a, d')) = v := by show nw_u1 b.1 _ v _ = v; exact nw_u1s
            omega
          · have h2 := hd' (nw_fr (nw_tl N) (nw_hd N) (a', d'))
            have h3 := m6 j' a' d' hj' (by omega) hq' (by omega)
            omega
        · rw [if_pos (nI_le (by omega) (by omega)), nw_bd]
          exact hkeep (fun _ _ => by omega)
      · rw [if_pos (show (1000000000 : Int32) ≤ nI (b.1 (nw_fr (nw_tl N) (nw_hd N) (a, d))) from nI_le (a := 1000000000) (by omega) (by omega)), nw_bd]
        exact hkeep (fun _ h => absurd h c1)
theorem nw_f33 (hW : nw_W N) (hfr : fr < nw_n N) (hto : to < nw_n N) (hG : nw_G (nw_tl N) (nw_hd N) (nw_cc N) (nw_uB N fr to ap) (2 * fr) (2 * to + 1) k x π) {a1 a2 : Int32} : ∀ (n fuel : Nat) (σ : jv_S) (b : nw_B), wk_S 20 b.1 ≤ n → n + 1 < fuel → nw_KB N fr to ap (nw_JL N) x σ → nw_BI (nw_tl N) (nw_hd N) (nw_cc N) (nw_uB N fr to ap) x (2 * fr) π b → nw_rC N (2 * fr) b σ →
    ∃ τ c b', f_X8_flows_lp33 a1 a2 fuel true σ = some (c, τ) ∧ nw_f nw_pU σ τ ∧ nw_rC N (2 * fr) b' τ ∧ nw_BI (nw_tl N) (nw_hd N) (nw_cc N) (nw_uB N fr to ap) x (2 * fr) π b' ∧ nw_cld (nw_tl N) (nw_hd N) (nw_cc N) (nw_uB N fr to ap) x b'.1 := by
  have hJ := nw_JL_len hW
  intro n
  induction n with
  | zero =>
    intro fuel σ b hn hf hK hI hr
    obtain ⟨f, rfl, hg⟩ := nw_fe hf
    rw [f_X8_flows_lp33, if_pos rfl]
    obtain ⟨τ, c', z, b', m1, m2, m3, m4, m5, m6, m7, m8⟩ := nw_f42 hW hfr hto hG (a1 := a1) (a2 := a2) (2 * (nw_JL N).length) 0 jv_fuel false σ b (by omega) (nw_fu (by omega)) hK hI hr
    rw [show f_X8_flows_lp42 a1 a2 jv_fuel false (0 : Int32) σ = _ from m1, nw_bd]
    cases hc : c' with
    | true => rcases m8 hc with h | h; cases h; omega
    | false =>
      obtain ⟨-, e⟩ := m7 hc
      obtain ⟨f2, rfl⟩ := nw_f0 hg
      refine ⟨τ, false, b', by rw [f_X8_flows_lp33, if_neg (show ¬ false = true by decide)], m2, m3, m4, fun q hq hlt => ?_⟩
      obtain ⟨j, hj⟩ := nw_uB_pos (fr := fr) (to := to) (ap := ap) hW hq.1 (by have := hG.1 q.1 hq.1; rcases hq.2 with h | h <;> omega)
      have := m6 j q.1 q.2 hj (Nat.zero_le _) hq (by rw [e] at hlt; exact hlt)
      rw [e] at this ⊢
      exact this
  | succ n ih =>
    intro fuel σ b hn hf hK hI hr
    obtain ⟨f, rfl, hg⟩ := nw_fe hf
    rw [f_X8_flows_lp33, if_pos rfl]
    obtain ⟨τ, c', z, b', m1, m2, m3, m4, m5, m6, m7, m8⟩ := nw_f42 hW hfr hto hG (a1 := a1) (a2 := a2) (2 * (nw_JL N).length) 0 jv_fuel false σ b (by omega) (nw_fu (by omega)) hK hI hr
    rw [show f_X8_flows_lp42 a1 a2 jv_fuel false (0 : Int32) σ = _ from m1, nw_bd]
    cases hc : c' with
    | true =>
      have hlt : wk_S 20 b'.1 < wk_S 20 b.1 := by rcases m8 hc with h | h; cases h; exact h
      obtain ⟨ρ, c2, b2, p1, p2, p3⟩ := ih f τ b' (by omega) hg (hK.keep m2) m4 m3
      exact ⟨ρ, c2, b2, p1, m2.trans p2, p3⟩
    | false =>
      obtain ⟨-, e⟩ := m7 hc
      obtain ⟨f2, rfl⟩ := nw_f0 (show 0 < f by omega)
      refine ⟨τ, false, b', by rw [f_X8_flows_lp33, if_neg (show ¬ false = true by decide)], m2, m3, m4, fun q hq hlt => ?_⟩
      obtain ⟨j, hj⟩ := nw_uB_pos (fr := fr) (to := to) (ap := ap) hW hq.1 (by have := hG.1 q.1 hq.1; rcases hq.2 with h | h <;> omega)
      have := m6 j q.1 q.2 hj (Nat.zero_le _) hq (by rw [e] at hlt; exact hlt)
      rw [e] at this ⊢
      exact this
theorem nw_f2 {fr : Nat} (hfr : fr < 20) {a2 : Int32} : ∀ (k j fuel : Nat) (σ : jv_S), j + k = 20 → k < fuel → (∀ p, p < j → σ.1 57 p = nI (if p = fr then 0 else 1000000000)) → ∃ τ z, f_X8_flows_lp2 (nI fr) a2 fuel (nI j) σ = some (z, τ) ∧ nw_f (nw_r 57) σ τ ∧ ∀ p, p < 20 → τ.1 57 p = nI (if p = fr then 0 else 1000000000) := by
  intro k
  induction k with
  | zero =>
    intro j fuel σ hj hf h
    obtain ⟨f, rfl⟩ := nw_f0 hf
    have hj : j = 20 := by omega
    subst hj
    exact ⟨σ, nI 20, by rw [f_X8_flows_lp2, if_pos (show (20 : Int32) ≤ nI 20 from nI_le (Nat.le_refl _) (by omega))], nw_f.rfl, h⟩
  | succ k ih =>
    intro j fuel σ hj hf h
    obtain ⟨f, rfl, hg⟩ := nw_fe hf
    have e1 : (if nI j = nI fr then (0 : Int32) else (1000000000 : Int32)) = nI (if j = fr then 0 else 1000000000) := by
      by_cases e : j = fr
      · subst e; rw [if_pos rfl, if_pos rfl]; rfl
      · rw [if_neg (fun h => e ((nI_eq (by omega) (by omega)).mp h)), if_neg e]; rfl
    rw [f_X8_flows_lp2, if_neg (show ¬ (20 : Int32) ≤ nI j from nI_ge (b := 20) (by omega) (by omega)), e1, nw_lt, nw_ck (by omega) (by omega), if_pos rfl, nI_clamp (by omega), nI_1]
    obtain ⟨τ, z, g1, g2, g3⟩ := ih (j + 1) f (jv_si σ 57 j (nI (if j = fr then 0 else 1000000000))) (by omega) hg (fun p hp => by
      by_cases e : p = j
      · subst e; rw [nw_gs]
      · rw [nw_gj e]; exact h p (by omega))
    exact ⟨τ, z, g1, (nw_f.rfl.si nw_r_t).trans g2, g3⟩
theorem nw_sendB (hW : nw_W N) (hfr : fr < nw_n N) (hto : to < nw_n N) (hx : ∀ a, a < 34 → x a ≤ nw_uB N fr to ap a) {a2 : Int32} {b : nw_B} (hI : nw_BI (nw_tl N) (nw_hd N) (nw_cc N) (nw_uB N fr to ap) x (2 * fr) π b) : ∀ (Q : List (Nat × Bool)) (p fuel : Nat) (x' : Nat → Nat) (σ : jv_S), nw_tr (nw_tl N) (nw_hd N) b.2.1 (2 * fr) Q p → p < 20 → b.1 p < 1000000000 → Q.length < fuel → Q.Pairwise (fun a b => a.1 ≠ b.1) → (∀ q ∈ Q, nw_re (nw_uB N fr to ap) x' q) → (∀ a, a < 34 → x' a ≤ nw_uB N fr to ap a) → nw_KB N fr to ap (nw_JL N) x' σ → nw_rC N (2 * fr) b σ →
    ∃ τ z, f_X8_flows_lp194 (nI fr) a2 fuel (nI (nw_rp2 p)) σ = some (z, τ) ∧ nw_f (nw_r 55) σ τ ∧ nw_KB N fr to ap (nw_JL N) (nw_xs x' Q) τ := by
  have hN := nw_gntB (ap := ap) hW hfr hto
  have hn := hW.n
  intro Q
  induction Q with
  | nil =>
    intro p fuel x' σ ht hp hr hf hpw hq hxb hK hR
    obtain ⟨f, rfl⟩ := nw_f0 hf
    have ht' : p = 2 * fr := ht
    exact ⟨σ, _, by rw [f_X8_flows_lp194, if_pos (by rw [ht', nw_rp2_e])], nw_f.rfl, hK⟩
  | cons q Q ih =>
    rintro p fuel x' σ ⟨h1, h2, h3⟩ hp hr hf hpw hq hxb hK hR
    obtain ⟨f, rfl, hg⟩ := nw_fe hf
    rw [List.pairwise_cons] at hpw
    obtain ⟨j1, j2, j3, -⟩ := hI.2.2.2.1 p hp hr h1
    obtain ⟨j, hj, hby⟩ := hR.2 p hp hr h1
    rw [h2] at j1 j2 j3 hj hby
    obtain ⟨g1, g2, g3, g4⟩ := nw_re_pt hN hx j1
    have hrp := nw_rp2_lt hp
    have hrq := hq q List.mem_cons_self
    obtain ⟨ha34, hj34, hua⟩ := nw_JL_34 (fr := fr) (to := to) (ap := ap) hW hj
    obtain ⟨⟨k1, k2, k3, k4⟩, k5, k6, k7, k8⟩ := hK.2 j q.1 hj
    have hxq := hxb q.1 ha34
    have hub := nw_uBb (N := N) (fr := fr) (to := to) (ap := ap) (a := q.1)
    have hnf : ¬ nI (nw_rp2 p) = nI fr := fun h => h1 (nw_rp2_inj hp (by omega) (by rw [(nI_eq (by omega) (by omega)).mp h, nw_rp2_e]))
    rw [f_X8_flows_lp194, if_neg hnf, nw_ck hrp (by omega), if_pos rfl, nI_clamp (by omega), hby]
    -- the new rows
    have hKnew : ∀ v1 v2 : Int32, v1 = nI (nw_uB N fr to ap q.1 - nw_x1 x' q q.1) → v2 = nI (nw_x1 x' q q.1) → ∀ τ : jv_S, nw_f (nw_r 55) σ τ → τ.1 55 (2 * j) = v1 → τ.1 55 (2 * j + 1) = v2 → (∀ i, i ≠ 2 * j → i ≠ 2 * j + 1 → τ.1 55 i = σ.1 55 i) → nw_KB N fr to ap (nw_JL N) (nw_x1 x' q) τ := fun v1 v2 e1 e2 τ hfτ f1 f2 f3 => by
      refine ⟨by rw [hfτ.row (by decide)]; exact hK.1, fun j' a' hj' => ?_⟩
      rw [hfτ.row (k := 53) (by decide), hfτ.row (k := 54) (by decide), hfτ.row (k := 56) (by decide)]
      obtain ⟨⟨m1, m2, m3, m4⟩, m5, m6, m7, m8⟩ := hK.2 j' a' hj'
      by_cases e : a' = q.1
      · have ej : j' = j := nw_JL_inj hW (by rw [hj', e]) hj
        subst ej
        rw [f1, f2, e1, e2, e]
        rw [e] at m1 m2 m4 m5 m6 m8
        exact ⟨⟨m1, m2, rfl, m4⟩, m5, m6, rfl, m8⟩
      · have ej : j' ≠ j := fun h => e (by rw [h, hj] at hj'; cases hj'; rfl)
        rw [f3 _ (by omega) (by omega), f3 _ (by omega) (by omega), nw_x1n e]
        exact ⟨⟨m1, m2, m3, m4⟩, m5, m6, m7, m8⟩
    have hfin : ∀ τ : jv_S, nw_f (nw_r 55) σ τ → nw_KB N fr to ap (nw_JL N) (nw_x1 x' q) τ → ∃ ρ z, f_X8_flows_lp194 (nI fr) a2 f (nI (nw_rp2 (nw_fr (nw_tl N) (nw_hd N) q))) τ = some (z, ρ) ∧ nw_f (nw_r 55) σ ρ ∧ nw_KB N fr to ap (nw_JL N) (nw_xs (nw_x1 x' q) Q) ρ := fun τ hfτ hKτ => by
      obtain ⟨ρ, z, m1, m2, m3⟩ := ih (nw_fr (nw_tl N) (nw_hd N) q) f (nw_x1 x' q) τ h3 g1 j3 hg hpw.2 (fun q' hq' => by
        have := hq q' (List.mem_cons_of_mem _ hq')
        refine ⟨this.1, ?_⟩
        rw [nw_x1n (fun e => hpw.1 q' hq' e.symm)]
        exact this.2) (fun a ha => by
        by_cases e : a = q.1
        · rw [e]
          unfold nw_x1
          rw [nw_u1s]
          rcases hrq.2 with ⟨e2, h⟩ | ⟨e2, h⟩
          · rw [if_pos e2]; omega
          · rw [if_neg (by rw [e2]; decide)]; omega
        · rw [nw_x1n e]; exact hxb a ha) hKτ ⟨by rw [hfτ.row (by decide)]; exact hR.1, by rw [hfτ.row (by decide)]; exact hR.2⟩
      exact ⟨ρ, z, m1, hfτ.trans m2, m3⟩
    rcases hrq.2 with ⟨e, h⟩ | ⟨e, h⟩
    · rw [if_pos e, Nat.add_zero, nw_ck (by omega) (by omega), nI_clamp (by omega), show (2 : Int32) = nI 2 from rfl, pk_rem (by omega) (by omega) (by omega), show 2 * j % 2 = 0 by omega, if_pos (show nI 0 = 0 from rfl), nI_1, nw_lt, nw_ck (by omega) (by omega), nI_clamp (by omega), k3, nw_gj (by omega), k7, k1, nI_1]
      simp only [if_true]
      have hx1 : nw_x1 x' q q.1 = x' q.1 + 1 := by unfold nw_x1; rw [nw_u1s, if_pos e]
      have hfrq : nw_fr (nw_tl N) (nw_hd N) q = nw_tl N q.1 := by unfold nw_fr; rw [if_pos e]
      have hsub : nI (nw_uB N fr to ap q.1 - x' q.1) - (1 : Int32) = nI (nw_uB N fr to ap q.1 - nw_x1 x' q q.1) := by
        rw [hx1, show (1 : Int32) = nI 1 from rfl, pk_sub (by omega)]; congr 1
      have hres := hfin (jv_si (jv_si σ 55 (2 * j) (nI (nw_uB N fr to ap q.1 - x' q.1) - (1 : Int32))) 55 (2 * j + 1) (nI (x' q.1 + 1))) ((nw_f.rfl.si nw_r_t).si nw_r_t) (hKnew _ _ hsub (by rw [hx1]) _ ((nw_f.rfl.si nw_r_t).si nw_r_t) (by rw [nw_gj (by omega), nw_gs]) nw_gs (fun i h1 h2 => by rw [nw_gj h2, nw_gj h1]))
      rw [hfrq] at hres
      exact hres
    · have e' : ¬ q.2 = true := by rw [e]; decide
      rw [if_neg e', nw_ck (by omega) (by omega), nI_clamp (by omega), show (2 : Int32) = nI 2 from rfl, pk_rem (by omega) (by omega) (by omega), show (2 * j + 1) % 2 = 1 by omega, if_neg (show ¬ nI 1 = 0 by decide), nI_pred, nw_lt, nw_ck (by omega) (by omega), nI_clamp (by omega), k7, nw_gj (by omega), k3, k5, nI_1]
      simp only [if_true]
      have hx1 : nw_x1 x' q q.1 = x' q.1 - 1 := by unfold nw_x1; rw [nw_u1s, if_neg e']
      have hfrq : nw_fr (nw_tl N) (nw_hd N) q = nw_hd N q.1 := by unfold nw_fr; rw [if_neg e']
      have hsub : nI (x' q.1) - (1 : Int32) = nI (nw_x1 x' q q.1) := by
        rw [hx1, show (1 : Int32) = nI 1 from rfl, pk_sub (by omega)]
      have hres := hfin (jv_si (jv_si σ 55 (2 * j + 1) (nI (x' q.1) - (1 : Int32))) 55 (2 * j) (nI (nw_uB N fr to ap q.1 - x' q.1 + 1))) ((nw_f.rfl.si nw_r_t).si nw_r_t) (hKnew _ _ (by rw [hx1]; congr 1; omega) hsub _ ((nw_f.rfl.si nw_r_t).si nw_r_t) nw_gs (by rw [nw_gj (by omega), nw_gs]) (fun i h1 h2 => by rw [nw_gj h1, nw_gj h2]))
      rw [hfrq] at hres
      exact hres
end NWU
