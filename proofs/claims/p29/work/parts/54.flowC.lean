/-! ===== the class's flow ===== -/
def nw_KA (N : nw_N) (fr to : Nat) (ap : Bool) (x : Nat → Nat) (σ : jv_S) : Prop := σ.1 24 8 = nI (2 * fr + 1) ∧ σ.1 24 9 = nI (2 * to) ∧ (∀ a, a < 34 → 0 < nw_uA N fr to ap a → σ.1 25 a = nI (nw_tl N a) ∧ σ.1 26 a = nI (nw_hd N a) ∧ σ.1 27 a = nI (nw_cc N a)) ∧ ∀ a, a < 34 → σ.1 28 a = nI (nw_uA N fr to ap a) ∧ σ.1 29 a = nI (x a)
def nw_rB (s : Nat) (b : nw_B) (σ : jv_S) : Prop := (∀ p, p < 20 → σ.1 30 p = nI (b.1 p)) ∧ ∀ p, p < 20 → b.1 p < 1000000000 → p ≠ s → σ.1 31 p = nI (b.2.1 p).1
def nw_pQ (k _ : Nat) : Bool := k == 30 || k == 31
theorem nw_KA.keep {N : nw_N} {fr to : Nat} {ap : Bool} {x : Nat → Nat} {σ τ : jv_S} (h : nw_KA N fr to ap x σ) (hf : nw_f nw_pQ σ τ) : nw_KA N fr to ap x τ := by
  obtain ⟨h1, h2, h3, h4⟩ := h
  have e : ∀ k, k ≠ 30 → k ≠ 31 → τ.1 k = σ.1 k := fun k a b => (hf.lng (k := k) (fun j => by simp [nw_pQ, a, b])).1
  refine ⟨by rw [e 24 (by decide) (by decide)]; exact h1, by rw [e 24 (by decide) (by decide)]; exact h2, ?_, ?_⟩
  · rw [e 25 (by decide) (by decide), e 26 (by decide) (by decide), e 27 (by decide) (by decide)]; exact h3
  · rw [e 28 (by decide) (by decide), e 29 (by decide) (by decide)]; exact h4
section NWI
variable {N : nw_N} {fr to : Nat} {ap : Bool} {x : Nat → Nat} {π : Nat → Int} {k : Nat}
theorem nw_uAb {a : Nat} : nw_uA N fr to ap a ≤ 24 := by
  unfold nw_uA
  split
  · split <;> omega
  · split
    · omega
    · split <;> omega
def nw_lq (N : nw_N) (q : Nat × Bool) : Int32 := if q.2 = true then nI (nw_cc N q.1) else -(nI (nw_cc N q.1))
theorem nw_reachC (hW : nw_W N) (hfr : fr < nw_n N) (hto : to < nw_n N) (hG : nw_G (nw_tl N) (nw_hd N) (nw_cc N) (nw_uA N fr to ap) (2 * fr + 1) (2 * to) k x π) {σ : jv_S} {b : nw_B} (hI : nw_BI (nw_tl N) (nw_hd N) (nw_cc N) (nw_uA N fr to ap) x (2 * fr + 1) π b) (hr : nw_rB (2 * fr + 1) b σ) {q : Nat × Bool} (hq : nw_re (nw_uA N fr to ap) x q) :
    ∃ τ c b', f_X1_reach σ (nI (nw_to (nw_tl N) (nw_hd N) q)) (nI (nw_fr (nw_tl N) (nw_hd N) q)) (nw_lq N q) (nI q.1) = (c, τ) ∧ nw_f nw_pQ σ τ ∧ nw_rB (2 * fr + 1) b' τ ∧ nw_BI (nw_tl N) (nw_hd N) (nw_cc N) (nw_uA N fr to ap) x (2 * fr + 1) π b' ∧ (∀ p, b'.1 p ≤ b.1 p) ∧ (b.1 (nw_fr (nw_tl N) (nw_hd N) q) < 1000000000 → (b'.1 (nw_to (nw_tl N) (nw_hd N) q) : Int) ≤ (b.1 (nw_fr (nw_tl N) (nw_hd N) q) : Int) + nw_cq (nw_cc N) q) ∧ (c = false → b' = b) := by
  have hN := nw_gntA (ap := ap) hW hfr hto
  obtain ⟨g1, g2, g3, g4⟩ := nw_re_pt hN hG.1 hq
  have hbf := hI.2.1 _ g1
  have hbt := hI.2.1 _ g2
  unfold f_X1_reach
  rw [nw_rd (n := 20) g1 (by omega), nw_rd (n := 20) g2 (by omega), hr.1 _ g1, hr.1 _ g2]
  by_cases c1 : b.1 (nw_fr (nw_tl N) (nw_hd N) q) < 1000000000
  · rw [if_neg (show ¬ (1000000000 : Int32) ≤ nI (b.1 (nw_fr (nw_tl N) (nw_hd N) q)) from nI_ge (b := 1000000000) c1 (by omega))]
    have hsl := nw_slack hG hq
    have hp2 := (hI.2.2.1 _ g1 c1).1
    have hpt := (hG.2.2.2.2 _ g2).1
    have hsm := nw_small hI g1 c1
    obtain ⟨v, hv⟩ : ∃ v : Nat, (v : Int) = (b.1 (nw_fr (nw_tl N) (nw_hd N) q) : Int) + nw_cq (nw_cc N) q := ⟨((b.1 (nw_fr (nw_tl N) (nw_hd N) q) : Int) + nw_cq (nw_cc N) q).toNat, by omega⟩
    have hsum : nI (b.1 (nw_fr (nw_tl N) (nw_hd N) q)) + nw_lq N q = nI v := by
      unfold nw_lq
      unfold nw_cq at hv
      rcases hq.2 with ⟨e, _⟩ | ⟨e, _⟩
      · rw [if_pos e] at hv ⊢
        rw [nI_add]; congr 1; omega
      · have e' : ¬ q.2 = true := by rw [e]; decide
        rw [if_neg e'] at hv ⊢
        rw [← Int32.sub_eq_add_neg, pk_sub (by omega)]; congr 1; omega
    rw [hsum]
    by_cases c2 : v < b.1 (nw_to (nw_tl N) (nw_hd N) q)
    · rw [if_pos (nI_lt c2 (by omega)), nw_wr (n := 20) g2 (by omega), nw_wr (n := 20) g2 (by omega)]
      have hI' := nw_BI_up hN hG hI hq c1 hv c2
      refine ⟨_, _, _, rfl, (nw_f.rfl.si (by rfl)).si (by rfl), ⟨fun p hp => ?_, fun p hp hrp hps => ?_⟩, hI', fun p => ?_, fun _ => ?_, fun h => by cases h⟩
      · rw [nw_gn (by decide)]
        show _ = nI (nw_u1 b.1 _ v p)
        by_cases e : p = nw_to (nw_tl N) (nw_hd N) q
        · rw [e, nw_gs, nw_u1s]
        · rw [nw_gj e, nw_u1n e, hr.1 p hp]
      · show _ = nI (if p = nw_to (nw_tl N) (nw_hd N) q then q else b.2.1 p).1
        have hrp' : nw_u1 b.1 (nw_to (nw_tl N) (nw_hd N) q) v p < 1000000000 := hrp
        by_cases e : p = nw_to (nw_tl N) (nw_hd N) q
        · rw [if_pos e, e, nw_gs]
        · rw [if_neg e, nw_gj e, nw_gn (by decide)]
          rw [nw_u1n e] at hrp'
          exact hr.2 p hp hrp' hps
      · show nw_u1 b.1 _ v p ≤ _
        by_cases e : p = nw_to (nw_tl N) (nw_hd N) q
        · rw [e, nw_u1s]; omega
        · rw [nw_u1n e]; exact Nat.le_refl _
      · show (nw_u1 b.1 _ v _ : Int) ≤ _
        rw [nw_u1s]; omega
    · rw [if_neg (nI_nlt (by omega) (by omega))]
      exact ⟨σ, false, b, rfl, nw_f.rfl, hr, hI, fun _ => Nat.le_refl _, fun _ => by omega, fun _ => rfl⟩
  · rw [if_pos (show (1000000000 : Int32) ≤ nI (b.1 (nw_fr (nw_tl N) (nw_hd N) q)) from nI_le (a := 1000000000) (by omega) (by omega))]
    exact ⟨σ, false, b, rfl, nw_f.rfl, hr, hI, fun _ => Nat.le_refl _, fun h => absurd h c1, fun _ => rfl⟩
theorem nw_cheap (hW : nw_W N) (hfr : fr < nw_n N) (hto : to < nw_n N) (hG : nw_G (nw_tl N) (nw_hd N) (nw_cc N) (nw_uA N fr to ap) (2 * fr + 1) (2 * to) k x π) : ∀ (j a fuel : Nat) (c : Bool) (σ : jv_S) (b : nw_B), a + j = 34 → j < fuel → nw_KA N fr to ap x σ → nw_BI (nw_tl N) (nw_hd N) (nw_cc N) (nw_uA N fr to ap) x (2 * fr + 1) π b → nw_rB (2 * fr + 1) b σ →
    ∃ τ c' b', f_X1_cheapenAll_lp4 fuel c (nI a) σ = some (c', nI 34, τ) ∧ nw_f nw_pQ σ τ ∧ nw_rB (2 * fr + 1) b' τ ∧ nw_BI (nw_tl N) (nw_hd N) (nw_cc N) (nw_uA N fr to ap) x (2 * fr + 1) π b' ∧ (∀ p, b'.1 p ≤ b.1 p) ∧ (∀ q, a ≤ q.1 → nw_re (nw_uA N fr to ap) x q → b.1 (nw_fr (nw_tl N) (nw_hd N) q) < 1000000000 → (b'.1 (nw_to (nw_tl N) (nw_hd N) q) : Int) ≤ (b.1 (nw_fr (nw_tl N) (nw_hd N) q) : Int) + nw_cq (nw_cc N) q) ∧ (c' = false → c = false ∧ b' = b) := by
  intro j
  induction j with
  | zero =>
    intro a fuel c σ b ha hf hK hI hr
    obtain ⟨f, rfl⟩ := nw_f0 hf
    have ha : a = 34 := by omega
    subst ha
    exact ⟨σ, c, b, by rw [f_X1_cheapenAll_lp4, if_pos (show (34 : Int32) ≤ nI 34 from nI_le (Nat.le_refl _) (by omega))], nw_f.rfl, hr, hI, fun _ => Nat.le_refl _, fun q h1 h2 => by have := h2.1; omega, fun h => ⟨h, rfl⟩⟩
  | succ j ih =>
    intro a fuel c σ b ha hf hK hI hr
    obtain ⟨f, rfl, hg⟩ := nw_fe hf
    have ha34 : a < 34 := by omega
    obtain ⟨k1, k2, k3, k4⟩ := id hK
    have hub := nw_uAb (N := N) (fr := fr) (to := to) (ap := ap) (a := a)
    have hxu := hG.1 a ha34
    rw [f_X1_cheapenAll_lp4, if_neg (show ¬ (34 : Int32) ≤ nI a from nI_ge (b := 34) ha34 (by omega)), nw_rd (n := 34) (p := a) (f := σ.1 28) ha34 (by omega), nw_rd (n := 34) (p := a) (f := σ.1 29) ha34 (by omega), (k4 a ha34).1, (k4 a ha34).2, nI_1, nw_rd (n := 34) (p := a) (f := σ.1 26) ha34 (by omega), nw_rd (n := 34) (p := a) (f := σ.1 25) ha34 (by omega), nw_rd (n := 34) (p := a) (f := σ.1 27) ha34 (by omega)]
    -- along the arc
    have h1 : ∃ τ c1 b1, (if nI (nw_uA N fr to ap a) ≤ nI (x a) then ((c, σ)) else (jv_lt (f_X1_reach σ (σ.1 26 a) (σ.1 25 a) (σ.1 27 a) (nI a)) (fun q4 => jv_lt (if q4.1 = true then (true) else (if c = true then (true) else (false))) (fun q6 => (q6, q4.2))))) = (c1, τ) ∧ nw_f nw_pQ σ τ ∧ nw_rB (2 * fr + 1) b1 τ ∧ nw_BI (nw_tl N) (nw_hd N) (nw_cc N) (nw_uA N fr to ap) x (2 * fr + 1) π b1 ∧ (∀ p, b1.1 p ≤ b.1 p) ∧ (x a < nw_uA N fr to ap a → b.1 (nw_fr (nw_tl N) (nw_hd N) (a, true)) < 1000000000 → (b1.1 (nw_to (nw_tl N) (nw_hd N) (a, true)) : Int) ≤ (b.1 (nw_fr (nw_tl N) (nw_hd N) (a, true)) : Int) + nw_cq (nw_cc N) (a, true)) ∧ (c1 = false → c = false ∧ b1 = b) := by
      by_cases c1 : nw_uA N fr to ap a ≤ x a
      · rw [if_pos (nI_le c1 (by omega))]
        exact ⟨σ, c, b, rfl, nw_f.rfl, hr, hI, fun _ => Nat.le_refl _, fun h => by omega, fun h => ⟨h, rfl⟩⟩
      · rw [if_neg (nI_ge (by omega) (by omega))]
        obtain ⟨t1, t2, t3⟩ := k3 a ha34 (by omega)
        rw [t1, t2, t3]
        obtain ⟨τ, cc, b1, r1, r2, r3, r4, r5, r6, r7⟩ := nw_reachC hW hfr hto hG hI hr (q := (a, true)) ⟨ha34, Or.inl ⟨rfl, by show x a < nw_uA N fr to ap a; omega⟩⟩
        rw [show f_X1_reach σ (nI (nw_hd N a)) (nI (nw_tl N a)) (nI (nw_cc N a)) (nI a) = _ from r1, nw_lt]
        refine ⟨τ, _, b1, rfl, r2, r3, r4, r5, fun _ => r6, fun h => ?_⟩
        cases cc <;> cases c <;> first | exact ⟨rfl, r7 rfl⟩ | (simp at h)
    obtain ⟨τ, c1, b1, e1, e2, e3, e4, e5, e6, e7⟩ := h1
    have hK1 := hK.keep e2
    obtain ⟨k1', k2', k3', k4'⟩ := id hK1
    rw [e1, nw_lt, nw_rd (n := 34) (p := a) (f := τ.1 29) ha34 (by omega), (k4' a ha34).2, nw_rd (n := 34) (p := a) (f := τ.1 27) ha34 (by omega)]
    have h2 : ∃ ρ c2 b2, (if nI (x a) ≤ 0 then ((c1, τ)) else (jv_lt (f_X1_reach τ (σ.1 25 a) (σ.1 26 a) (-(τ.1 27 a)) (nI a)) (fun q10 => jv_lt (if q10.1 = true then (true) else (if c1 = true then (true) else (false))) (fun q12 => (q12, q10.2))))) = (c2, ρ) ∧ nw_f nw_pQ τ ρ ∧ nw_rB (2 * fr + 1) b2 ρ ∧ nw_BI (nw_tl N) (nw_hd N) (nw_cc N) (nw_uA N fr to ap) x (2 * fr + 1) π b2 ∧ (∀ p, b2.1 p ≤ b1.1 p) ∧ (0 < x a → b1.1 (nw_fr (nw_tl N) (nw_hd N) (a, false)) < 1000000000 → (b2.1 (nw_to (nw_tl N) (nw_hd N) (a, false)) : Int) ≤ (b1.1 (nw_fr (nw_tl N) (nw_hd N) (a, false)) : Int) + nw_cq (nw_cc N) (a, false)) ∧ (c2 = false → c1 = false ∧ b2 = b1) := by
      by_cases c1' : x a = 0
      · rw [if_pos (by rw [c1']; decide)]
        exact ⟨τ, c1, b1, rfl, nw_f.rfl, e3, e4, fun _ => Nat.le_refl _, fun h => by omega, fun h => ⟨h, rfl⟩⟩
      · rw [if_neg (nI_nle (by omega) (by omega))]
        obtain ⟨t1, t2, t3⟩ := k3 a ha34 (by omega)
        obtain ⟨_, _, t3'⟩ := k3' a ha34 (by omega)
        rw [t1, t2, t3']
        obtain ⟨ρ, cc, b2, r1, r2, r3, r4, r5, r6, r7⟩ := nw_reachC hW hfr hto hG e4 e3 (q := (a, false)) ⟨ha34, Or.inr ⟨rfl, by show 0 < x a; omega⟩⟩
        rw [show f_X1_reach τ (nI (nw_tl N a)) (nI (nw_hd N a)) (-(nI (nw_cc N a))) (nI a) = _ from r1, nw_lt]
        refine ⟨ρ, _, b2, rfl, r2, r3, r4, r5, fun _ => r6, fun h => ?_⟩
        cases cc <;> cases c1 <;> first | exact ⟨rfl, r7 rfl⟩ | (simp at h)
    obtain ⟨ρ, c2, b2, d1, d2, d3, d4, d5, d6, d7⟩ := h2
    rw [d1, nw_lt]
    obtain ⟨w, c3, b3, g1, g2, g3, g4, g5, g6, g7⟩ := ih (a + 1) f c2 ρ b2 (by omega) hg (hK1.keep d2) d4 d3
    refine ⟨w, c3, b3, g1, (e2.trans d2).trans g2, g3, g4, fun p => Nat.le_trans (g5 p) (Nat.le_trans (d5 p) (e5 p)), fun q h1 h2 h3 => ?_, fun h => ?_⟩
    · by_cases c : q.1 = a
      · obtain ⟨qa, qb⟩ := q
        have c' : qa = a := c
        subst c'
        rcases h2.2 with ⟨e, hx⟩ | ⟨e, hx⟩
        · have e' : qb = true := e
          subst e'
          have m1 := e6 hx h3
          have m2 := d5 (nw_to (nw_tl N) (nw_hd N) (qa, true))
          have m3 := g5 (nw_to (nw_tl N) (nw_hd N) (qa, true))
          omega
        · have e' : qb = false := e
          subst e'
          have m0 := e5 (nw_fr (nw_tl N) (nw_hd N) (qa, false))
          have m1 := d6 hx (by omega)
          have m3 := g5 (nw_to (nw_tl N) (nw_hd N) (qa, false))
          omega
      · have m0 := e5 (nw_fr (nw_tl N) (nw_hd N) q)
        have m1 := d5 (nw_fr (nw_tl N) (nw_hd N) q)
        have m2 := g6 q (by omega) h2 (by omega)
        omega
    · obtain ⟨m1, m2⟩ := g7 h
      obtain ⟨m3, m4⟩ := d7 m1
      obtain ⟨m5, m6⟩ := e7 m3
      exact ⟨m5, by rw [m2, m4, m6]⟩
theorem nw_rounds (hW : nw_W N) (hfr : fr < nw_n N) (hto : to < nw_n N) (hG : nw_G (nw_tl N) (nw_hd N) (nw_cc N) (nw_uA N fr to ap) (2 * fr + 1) (2 * to) k x π) : ∀ (j r fuel : Nat) (c : Bool) (σ : jv_S) (b : nw_B), r + j = 20 → j < fuel → nw_KA N fr to ap x σ → nw_BI (nw_tl N) (nw_hd N) (nw_cc N) (nw_uA N fr to ap) x (2 * fr + 1) π b → nw_rB (2 * fr + 1) b σ → bf_S (nw_qb (2 * fr + 1)) (nw_qa (nw_tl N) (nw_hd N) (nw_cc N) (nw_uA N fr to ap) x π) 20 (nw_X π b.1) r → (c = false → nw_cld (nw_tl N) (nw_hd N) (nw_cc N) (nw_uA N fr to ap) x b.1) →
    ∃ τ c' r' b', f_X1_addPath_lp25 fuel c (nI r) σ = some (c', r', τ) ∧ nw_f nw_pQ σ τ ∧ nw_rB (2 * fr + 1) b' τ ∧ nw_BI (nw_tl N) (nw_hd N) (nw_cc N) (nw_uA N fr to ap) x (2 * fr + 1) π b' ∧ nw_cld (nw_tl N) (nw_hd N) (nw_cc N) (nw_uA N fr to ap) x b'.1 := by
  have hN := nw_gntA (ap := ap) hW hfr hto
  intro j
  induction j with
  | zero =>
    intro r fuel c σ b hj hf hK hI hr hS hc
    obtain ⟨f, rfl⟩ := nw_f0 hf
    have hj : r = 20 := by omega
    subst hj
    exact ⟨σ, c, nI 20, b, by rw [f_X1_addPath_lp25, if_pos (show (20 : Int32) ≤ nI 20 from nI_le (Nat.le_refl _) (by omega))], nw_f.rfl, hr, hI, nw_top hN hG hI (bf_top hS (by omega))⟩
  | succ j ih =>
    intro r fuel c σ b hj hf hK hI hr hS hc
    obtain ⟨f, rfl, hg⟩ := nw_fe hf
    rw [f_X1_addPath_lp25, if_neg (show ¬ (20 : Int32) ≤ nI r from nI_ge (b := 20) (by omega) (by omega))]
    cases c with
    | false => exact ⟨σ, false, nI r, b, by simp, nw_f.rfl, hr, hI, hc rfl⟩
    | true =>
      rw [if_pos rfl]
      obtain ⟨τ, c', b', g1, g2, g3, g4, g5, g6, g7⟩ := nw_cheap hW hfr hto hG 34 0 jv_fuel false σ b rfl (nw_fu (by omega)) hK hI hr
      unfold f_X1_cheapenAll
      rw [show f_X1_cheapenAll_lp4 jv_fuel false (0 : Int32) σ = _ from g1, nw_bd, nw_bd, nI_1]
      have hrel : ∀ q, nw_re (nw_uA N fr to ap) x q → b.1 (nw_fr (nw_tl N) (nw_hd N) q) < 1000000000 → (b'.1 (nw_to (nw_tl N) (nw_hd N) q) : Int) ≤ (b.1 (nw_fr (nw_tl N) (nw_hd N) q) : Int) + nw_cq (nw_cc N) q := fun q => g6 q (Nat.zero_le _)
      obtain ⟨ρ, c2, r2, b2, m1, m2, m3, m4, m5⟩ := ih (r + 1) f c' τ b' (by omega) hg (hK.keep g2) g4 g3 (nw_S1 hN hG hI g4 g5 hS hrel) (fun h => by
        obtain ⟨-, e⟩ := g7 h
        rw [e] at hrel ⊢
        exact hrel)
      exact ⟨ρ, c2, r2, b2, m1, g2.trans m2, m3, m4, m5⟩
def nw_b0 (s : Nat) : nw_B := (fun p => if p = s then 0 else 1000000000, fun _ => (0, true), fun _ => 0, 0)
theorem nw_BI0 {tl hd c u x : Nat → Nat} {s t k : Nat} {π : Nat → Int} (hN : nw_gnt tl hd c u s t) (hG : nw_G tl hd c u s t k x π) : nw_BI tl hd c u x s π (nw_b0 s) ∧ bf_S (nw_qb s) (nw_qa tl hd c u x π) 20 (nw_X π (nw_b0 s).1) 0 := by
  have hd0 : ∀ p, (nw_b0 s).1 p = if p = s then 0 else 1000000000 := fun _ => rfl
  have hs0 : (nw_b0 s).1 s = 0 := by rw [hd0, if_pos rfl]
  refine ⟨⟨hs0, fun p _ => by rw [hd0]; split <;> omega, fun p hp h => ?_, fun p hp h hps => ?_, fun p _ => Nat.le_refl _, fun p hp h => ?_⟩, bf_S0 (fun p L hp h => ?_) (fun p w o hp h => ?_)⟩
  · rw [hd0] at h ⊢
    by_cases e : p = s
    · rw [if_pos e, e, hG.2.2.2.1]
      exact ⟨Int.le_refl _, 0, bf_R.base ⟨rfl, rfl⟩⟩
    · rw [if_neg e] at h; omega
  · rw [hd0, if_neg hps] at h; omega
  · rw [hd0] at h ⊢
    by_cases e : p = s
    · rw [if_pos e]; exact Nat.zero_le _
    · rw [if_neg e] at h; omega
  · obtain ⟨rfl, rfl⟩ := h
    unfold nw_X
    rw [hs0, hG.2.2.2.1]
    simp
  · obtain ⟨q, hq, rfl, rfl, hw⟩ := h
    exact (nw_re_pt hN hG.1 hq).1
def nw_pQ2 (k _ : Nat) : Bool := k == 29 || k == 30 || k == 31
theorem nw_sendC (hW : nw_W N) (hfr : fr < nw_n N) (hto : to < nw_n N) (hx : ∀ a, a < 34 → x a ≤ nw_uA N fr to ap a) {b : nw_B} (hI : nw_BI (nw_tl N) (nw_hd N) (nw_cc N) (nw_uA N fr to ap) x (2 * fr + 1) π b) : ∀ (Q : List (Nat × Bool)) (p st fuel : Nat) (x' : Nat → Nat) (σ : jv_S), nw_tr (nw_tl N) (nw_hd N) b.2.1 (2 * fr + 1) Q p → p < 20 → b.1 p < 1000000000 → Q.length + st ≤ 19 → Q.length < fuel → Q.Pairwise (fun a b => a.1 ≠ b.1) → (∀ q ∈ Q, nw_re (nw_uA N fr to ap) x' q) → (∀ a, a < 34 → x' a ≤ 1000) → nw_KA N fr to ap x' σ → nw_rB (2 * fr + 1) b σ →
    ∃ τ z1 z2, f_X1_send_lp7 fuel (nI p) (nI st) σ = some (z1, z2, τ) ∧ nw_f (nw_r 29) σ τ ∧ nw_KA N fr to ap (nw_xs x' Q) τ := by
  have hN := nw_gntA (ap := ap) hW hfr hto
  have hn := hW.n
  intro Q
  induction Q with
  | nil =>
    intro p st fuel x' σ ht hp hr hl hf hpw hq hxb hK hR
    obtain ⟨f, rfl⟩ := nw_f0 hf
    have ht' : p = 2 * fr + 1 := ht
    simp at hl
    exact ⟨σ, nI p, nI st, by rw [f_X1_send_lp7, if_neg (show ¬ (20 : Int32) ≤ nI st from nI_ge (b := 20) (by omega) (by omega)), hK.1, if_pos (by rw [ht'])], nw_f.rfl, hK⟩
  | cons q Q ih =>
    rintro p st fuel x' σ ⟨h1, h2, h3⟩ hp hr hl hf hpw hq hxb hK hR
    obtain ⟨f, rfl, hg⟩ := nw_fe hf
    rw [List.pairwise_cons] at hpw
    rw [List.length_cons] at hl
    obtain ⟨j1, j2, j3, -⟩ := hI.2.2.2.1 p hp hr h1
    rw [h2] at j1 j2 j3
    obtain ⟨g1, g2, g3, g4⟩ := nw_re_pt hN hx j1
    have ha34 := j1.1
    have hu : 0 < nw_uA N fr to ap q.1 := by have := hx q.1 ha34; rcases j1.2 with h | h <;> omega
    obtain ⟨t1, t2, t3⟩ := hK.2.2.1 q.1 ha34 hu
    obtain ⟨n1, n2, n3, n4⟩ := hN.1 q.1 ha34 hu
    have hrq := hq q List.mem_cons_self
    have hxq := hxb q.1 ha34
    have hpar := hR.2 p hp hr h1
    rw [h2] at hpar
    rw [f_X1_send_lp7, if_neg (show ¬ (20 : Int32) ≤ nI st from nI_ge (b := 20) (by omega) (by omega)), hK.1, if_neg (fun h => h1 ((nI_eq (by omega) (by omega)).mp h)), nw_rd (n := 20) hp (by omega), hpar, nw_rd (n := 34) (f := σ.1 26) ha34 (by omega), nw_rd (n := 34) (f := σ.1 29) ha34 (by omega), t2, (hK.2.2.2 q.1 ha34).2, nI_1]
    have hal : (if nI (nw_hd N q.1) = nI p then true else false) = q.2 := by
      unfold nw_to at j2
      rcases j1.2 with ⟨e, _⟩ | ⟨e, _⟩
      · rw [if_pos e] at j2
        rw [j2, if_pos rfl, e]
      · have e' : ¬ q.2 = true := by rw [e]; decide
        rw [if_neg e'] at j2
        rw [if_neg (fun h => n3 (by rw [j2]; exact ((nI_eq (by omega) (by omega)).mp h).symm)), e]
    rw [hal, nw_lt, nw_lt]
    have hval : nI (x' q.1) + (if q.2 = true then (1 : Int32) else (-1 : Int32)) = nI (nw_x1 x' q q.1) := by
      unfold nw_x1
      rw [nw_u1s]
      rcases hrq.2 with ⟨e, _⟩ | ⟨e, h⟩
      · rw [if_pos e, if_pos e, nI_1]
      · have e' : ¬ q.2 = true := by rw [e]; decide
        rw [if_neg e', if_neg e']
        obtain ⟨w, hw⟩ : ∃ w, x' q.1 = w + 1 := ⟨x' q.1 - 1, by omega⟩
        rw [hw, pk_m1]; rfl
    rw [hval, nw_wr (n := 34) ha34 (by omega)]
    have hnext : (if q.2 = true then ((jv_rd ((jv_si σ 29 q.1 (nI (nw_x1 x' q q.1))).1 25) 34 0 (nI q.1))) else ((jv_rd ((jv_si σ 29 q.1 (nI (nw_x1 x' q q.1))).1 26) 34 0 (nI q.1)))) = nI (nw_fr (nw_tl N) (nw_hd N) q) := by
      rw [nw_gn (by decide), nw_gn (by decide), nw_rd (n := 34) ha34 (by omega), nw_rd (n := 34) ha34 (by omega), t1, t2]
      unfold nw_fr
      split <;> rfl
    rw [hnext, nw_lt]
    obtain ⟨τ, z1, z2, m1, m2, m3⟩ := ih (nw_fr (nw_tl N) (nw_hd N) q) (st + 1) f (nw_x1 x' q) (jv_si σ 29 q.1 (nI (nw_x1 x' q q.1))) h3 g1 j3 (by omega) hg hpw.2 (fun q' hq' => by
      have := hq q' (List.mem_cons_of_mem _ hq')
      refine ⟨this.1, ?_⟩
      rw [nw_x1n (fun e => hpw.1 q' hq' e.symm)]
      exact this.2) (fun a ha => by
      by_cases e : a = q.1
      · rw [e]
        have h24 := nw_uAb (N := N) (fr := fr) (to := to) (ap := ap) (a := q.1)
        unfold nw_x1
        rw [nw_u1s]
        rcases hrq.2 with ⟨e2, h⟩ | ⟨e2, h⟩
        · rw [if_pos e2]; omega
        · rw [if_neg (by rw [e2]; decide)]; omega
      · rw [nw_x1n e]; exact hxb a ha) ⟨by rw [nw_gn (by decide)]; exact hK.1, by rw [nw_gn (by decide)]; exact hK.2.1, by rw [nw_gn (by decide), nw_gn (by decide), nw_gn (by decide)]; exact hK.2.2.1, fun a ha => by
      rw [nw_gn (by decide)]
      refine ⟨(hK.2.2.2 a ha).1, ?_⟩
      by_cases e : a = q.1
      · rw [e, nw_gs]
      · rw [nw_gj e, nw_x1n e]; exact (hK.2.2.2 a ha).2⟩ ⟨by rw [nw_gn (by decide)]; exact hR.1, by rw [nw_gn (by decide)]; exact hR.2⟩
    exact ⟨τ, z1, z2, m1, (nw_f.rfl.si nw_r_t).trans m2, m3⟩
/-- one path more, or none -/
theorem nw_addC (hW : nw_W N) (hfr : fr < nw_n N) (hto : to < nw_n N) (hG : nw_G (nw_tl N) (nw_hd N) (nw_cc N) (nw_uA N fr to ap) (2 * fr + 1) (2 * to) k x π) {σ : jv_S} (hK : nw_KA N fr to ap x σ) :
    ∃ τ D, f_X1_addPath σ = some (nI D, τ) ∧ nw_f nw_pQ2 σ τ ∧ ((D < 1000000000 ∧ ∃ x' π', nw_KA N fr to ap x' τ ∧ nw_G (nw_tl N) (nw_hd N) (nw_cc N) (nw_uA N fr to ap) (2 * fr + 1) (2 * to) (k + 1) x' π' ∧ nw_co (nw_cc N) x' = nw_co (nw_cc N) x + (D : Int)) ∨ (D = 1000000000 ∧ nw_KA N fr to ap x τ ∧ ∀ (y : Nat → Nat) (val : Int), nw_fe2 (nw_tl N) (nw_hd N) (nw_uA N fr to ap) (2 * fr + 1) (2 * to) val y → val ≤ (k : Int))) := by
  have hN := nw_gntA (ap := ap) hW hfr hto
  have hn := hW.n
  obtain ⟨hI0, hS0⟩ := nw_BI0 hN hG
  have hf1 : nw_f nw_pQ σ (jv_si (jv_fl σ 30 20 (1000000000 : Int32)) 30 (2 * fr + 1) (0 : Int32)) := (nw_f.rfl.fl (fun _ => rfl)).si (by rfl)
  obtain ⟨τ, c', r', b, g1, g2, g3, g4, g5⟩ := nw_rounds hW hfr hto hG 20 0 jv_fuel true (jv_si (jv_fl σ 30 20 (1000000000 : Int32)) 30 (2 * fr + 1) (0 : Int32)) (nw_b0 (2 * fr + 1)) rfl (nw_fu (by omega)) (hK.keep hf1) hI0 ⟨fun p hp => by
      show _ = nI (if p = 2 * fr + 1 then 0 else 1000000000)
      by_cases e : p = 2 * fr + 1
      · rw [if_pos e, e, nw_gs]; rfl
      · rw [if_neg e, nw_gj e, nw_fl, if_pos hp]; rfl, fun p hp h hps => by
      have h' : (if p = 2 * fr + 1 then 0 else 1000000000) < 1000000000 := h
      rw [if_neg hps] at h'; omega⟩ hS0 (fun h => by cases h)
  have hft := hf1.trans g2
  have hKt := hK.keep hft
  have ht20 : 2 * to < 20 := by omega
  have hft2 : nw_f nw_pQ2 σ τ := hft.mono (fun k j h => by
    simp only [nw_pQ, nw_pQ2, Bool.or_eq_false_iff] at h ⊢; exact ⟨h.1.2, h.2⟩)
  have hbt := g4.2.1 _ ht20
  unfold f_X1_addPath
  rw [nw_fln (by decide), hK.1, nw_wr (n := 20) (by omega) (by omega), show f_X1_addPath_lp25 jv_fuel true (0 : Int32) _ = _ from g1, nw_bd, hKt.2.1, nw_rd (n := 20) ht20 (by omega), g3.1 _ ht20]
  by_cases c : b.1 (2 * to) < 1000000000
  · rw [if_neg (show ¬ (1000000000 : Int32) ≤ nI (b.1 (2 * to)) from nI_ge (b := 1000000000) c (by omega))]
    obtain ⟨Q, π', q1, q2, q3, q4, q5, q6, q7⟩ := nw_more hN hG g4 g5 c
    obtain ⟨ρ, z1, z2, m1, m2, m3⟩ := nw_sendC hW hfr hto hG.1 g4 Q (2 * to) 0 jv_fuel x τ q1 ht20 c (by omega) (nw_fu (by omega)) q3 q4 (fun a ha => by have := hG.1 a ha; have := nw_uAb (N := N) (fr := fr) (to := to) (ap := ap) (a := a); omega) hKt g3
    unfold f_X1_send
    rw [hKt.2.1, show f_X1_send_lp7 jv_fuel (nI (2 * to)) (0 : Int32) τ = _ from m1, nw_bd, nw_bd, nw_bd]
    refine ⟨ρ, _, rfl, hft2.trans (m2.mono (fun k j h => ?_)), Or.inl ⟨c, _, π', m3, q6, q7⟩⟩
    simp only [nw_r, nw_pQ2, Bool.or_eq_false_iff] at h ⊢
    exact h.1.1
  · rw [if_pos (show (1000000000 : Int32) ≤ nI (b.1 (2 * to)) from nI_le (a := 1000000000) (by omega) (by omega)), nw_bd]
    exact ⟨τ, _, rfl, hft2, Or.inr ⟨by omega, hKt, fun y val hy => nw_nomore hN hG g4 g5 c hy⟩⟩
end NWI
