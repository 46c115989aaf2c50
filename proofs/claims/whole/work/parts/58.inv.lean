/-! ===== what holds between the calls ===== -/
def nw_pSC (k j : Nat) : Bool := (k == 9 || k == 13 || k == 14 || k == 16) || (k == 24 || k == 25 || k == 26 || k == 28 || k == 29 || k == 30 || k == 31) || (k == 27 && decide (j < 24)) || (k == 32 || k == 33 || k == 34) || (k == 35 && (j == 0 || j == 21 || j == 22 || j == 33 || j == 38 || j == 43)) || (k == 43 || k == 44 || k == 45 || k == 46 || k == 47) || (k == 51 || k == 52 || k == 53 || k == 54 || k == 55 || k == 56 || k == 57 || k == 58 || k == 59 || k == 60 || k == 61)
def nw_net (N : nw_N) (σ : jv_S) : Prop := nw_W N ∧ nw_C0 N σ ∧ nw_C1 N σ ∧ nw_M N σ ∧ ∀ v, v < 10 → σ.1 27 (24 + v) = nI 0
def nw_IP (N : nw_N) (c : Nat) (σ : jv_S) : Prop := (σ.1 0 7 = 0 ∧ σ.1 35 9 = 0) ∨ (σ.1 0 7 = 1 ∧ σ.1 35 9 = 1 ∧ ∃ fr to cur drawn path, fr < nw_n N ∧ to < nw_n N ∧ fr ≠ to ∧ cur < 2 ^ 62 ∧ drawn ≤ c ∧ nw_CP N fr to cur drawn σ ∧ σ.1 35 10 = nI fr ∧ σ.1 35 11 = nI to ∧ nw_RP N (nw_ap N fr to) cur drawn path σ)
def nw_IW (N : nw_N) (σ : jv_S) : Prop := (σ.1 0 8 = 0 ∧ σ.1 35 23 = 0) ∨ (σ.1 0 8 = 1 ∧ σ.1 35 23 = 1 ∧ ∃ fr to drawn, fr < nw_n N ∧ to < nw_n N ∧ drawn ≤ 50 ∧ nw_WC N fr to drawn σ ∧ nw_RW N fr to drawn σ)
def nw_I (c : Nat) (σ : jv_S) : Prop := ∃ N, nw_net N σ ∧ nw_IP N c σ ∧ nw_IW N σ
section NWINV
variable {N : nw_N}
theorem nw_pSC_C (k j : Nat) (h : nw_pC k j = true) : nw_pSC k j = false := by
  simp only [nw_pC, nw_pSC, Bool.or_eq_true, Bool.and_eq_true, beq_iff_eq, Bool.or_eq_false_iff, Bool.and_eq_false_iff, beq_eq_false_iff_ne, decide_eq_false_iff_not] at h ⊢
  omega
theorem nw_pSC_M (k j : Nat) (h : nw_pM k j = true) : nw_pSC k j = false := by
  simp only [nw_pM, nw_pSC, Bool.or_eq_true, Bool.and_eq_true, beq_iff_eq, Bool.or_eq_false_iff, Bool.and_eq_false_iff, beq_eq_false_iff_ne, decide_eq_false_iff_not] at h ⊢
  omega
/-- the network stays -/
theorem nw_net.keep {σ τ : jv_S} {P : Nat → Nat → Bool} (h : nw_net N σ) (hf : nw_f P σ τ) (hC : ∀ k j, nw_pC k j = true → P k j = false) (hM : ∀ k j, nw_pM k j = true → P k j = false) (h6 : ∀ j, P 6 j = false) (h7 : ∀ j, P 7 j = false) (h27 : ∀ j, 24 ≤ j → P 27 j = false) : nw_net N τ := by
  obtain ⟨a1, a2, a3, a4, a5⟩ := h
  exact ⟨a1, hf.keepC a2 hC, hf.keepD a3 h6 h7, hf.keepM a4 hM, fun v hv => by rw [(hf 27 _ (h27 _ (by omega))).1, a5 v hv]⟩
theorem nw_CP.keep {fr to cur drawn : Nat} {σ τ : jv_S} (h : nw_CP N fr to cur drawn σ) (h10 : ∀ j, j = 3 ∨ j = 4 ∨ j = 5 ∨ j = 6 ∨ j = 7 → τ.1 10 j = σ.1 10 j) (h8 : τ.2 10 8 = σ.2 10 8) (h11 : τ.2 11 = σ.2 11) : nw_CP N fr to cur drawn τ := by
  obtain ⟨pg, nx, a1, a2, a3, a4, ⟨b1, b2, b3, b4⟩, a6, a7, a8⟩ := h
  exact ⟨pg, nx, by rw [h10 5 (by omega), a1], by rw [h10 6 (by omega), a2], by rw [h10 7 (by omega), a3], by rw [h8, a4], ⟨b1, by rw [h10 3 (by omega), b2], by rw [h11]; exact b3, b4⟩, by rw [h10 4 (by omega), a6], a7, a8⟩
theorem nw_WC.keep {fr to drawn : Nat} {σ τ : jv_S} (h : nw_WC N fr to drawn σ) (h17 : ∀ j, j = 7 ∨ j = 8 → τ.1 17 j = σ.1 17 j) (hr : ∀ k, 18 ≤ k → k ≤ 23 → τ.1 k = σ.1 k) : nw_WC N fr to drawn τ := by
  obtain ⟨a1, a2, cnt, tot, a3, a4⟩ := h
  exact ⟨by rw [h17 7 (by omega), a1], by rw [h17 8 (by omega), a2], cnt, tot, a3.keep hr, a4⟩
theorem nw_RW.keep {fr to drawn : Nat} {σ τ : jv_S} (h : nw_RW N fr to drawn σ) (h35 : ∀ j, j = 24 ∨ j = 26 ∨ j = 27 → τ.1 35 j = σ.1 35 j) (h48 : τ.1 48 = σ.1 48) (h49 : τ.1 49 = σ.1 49) (h50 : τ.1 50 = σ.1 50) : nw_RW N fr to drawn τ := by
  obtain ⟨a1, a2, ⟨cnt, ln, ⟨k1, k2⟩, a4⟩, a5, a6⟩ := h
  refine ⟨by rw [h35 24 (by omega), a1], by rw [h35 26 (by omega), a2], ⟨cnt, ln, ⟨by rw [h50]; exact k1, by rw [h49]; exact k2⟩, a4⟩, fun h => by rw [h35 27 (by omega), a5 h], fun d hd => ?_⟩
  obtain ⟨p, b1, b2, b3, b4⟩ := a6 d hd
  exact ⟨p, b1, b2, by rw [h35 27 (by omega), b3], by rw [h48]; exact b4⟩
/-- the cells of the two draws -/
def nw_dP (k j : Nat) : Bool := (k == 0 && j == 7) || k == 10 || k == 11 || (k == 35 && (j == 9 || j == 10 || j == 11 || j == 12 || j == 13 || j == 14)) || k == 42
def nw_dW (k j : Nat) : Bool := (k == 0 && j == 8) || k == 17 || (k == 18 || k == 19 || k == 20 || k == 21 || k == 22 || k == 23) || (k == 35 && (j == 23 || j == 24 || j == 25 || j == 26 || j == 27)) || (k == 48 || k == 49 || k == 50)
theorem nw_IP.keep {c c' : Nat} {σ τ : jv_S} {P : Nat → Nat → Bool} (h : nw_IP N c σ) (hc : c ≤ c') (hf : nw_f P σ τ) (hP : ∀ k j, nw_dP k j = true → P k j = false) : nw_IP N c' τ := by
  rcases h with ⟨h1, h2⟩ | ⟨h1, h2, fr, to, cur, drawn, path, a1, a2, a3, a4, a5, a6, a7, a8, a9⟩
  · exact Or.inl ⟨by rw [(hf 0 7 (hP _ _ rfl)).1, h1], by rw [(hf 35 9 (hP _ _ rfl)).1, h2]⟩
  · refine Or.inr ⟨by rw [(hf 0 7 (hP _ _ rfl)).1, h1], by rw [(hf 35 9 (hP _ _ rfl)).1, h2], fr, to, cur, drawn, path, a1, a2, a3, a4, by omega, a6.keep (fun j _ => (hf 10 j (hP _ _ rfl)).1) (hf 10 8 (hP _ _ rfl)).2 (hf.lng (fun j => hP 11 j rfl)).2, by rw [(hf 35 10 (hP _ _ rfl)).1, a7], by rw [(hf 35 11 (hP _ _ rfl)).1, a8], a9.keep (fun j hj => ?_) (hf.lng (fun j => hP 42 j rfl)).1⟩
    rcases hj with rfl | rfl | rfl <;> exact (hf 35 _ (hP _ _ rfl)).1
theorem nw_IW.keep {σ τ : jv_S} {P : Nat → Nat → Bool} (h : nw_IW N σ) (hf : nw_f P σ τ) (hP : ∀ k j, nw_dW k j = true → P k j = false) : nw_IW N τ := by
  rcases h with ⟨h1, h2⟩ | ⟨h1, h2, fr, to, drawn, a1, a2, a3, a4, a5⟩
  · exact Or.inl ⟨by rw [(hf 0 8 (hP _ _ rfl)).1, h1], by rw [(hf 35 23 (hP _ _ rfl)).1, h2]⟩
  · refine Or.inr ⟨by rw [(hf 0 8 (hP _ _ rfl)).1, h1], by rw [(hf 35 23 (hP _ _ rfl)).1, h2], fr, to, drawn, a1, a2, a3, a4.keep (fun j _ => (hf 17 j (hP _ _ rfl)).1) (fun k h1 h2 => (hf.lng (fun j => hP k j (by
      have : k = 18 ∨ k = 19 ∨ k = 20 ∨ k = 21 ∨ k = 22 ∨ k = 23 := by omega
      rcases this with rfl | rfl | rfl | rfl | rfl | rfl <;> rfl))).1), a5.keep (fun j hj => ?_) (hf.lng (fun j => hP 48 j rfl)).1 (hf.lng (fun j => hP 49 j rfl)).1 (hf.lng (fun j => hP 50 j rfl)).1⟩
    rcases hj with rfl | rfl | rfl <;> exact (hf 35 _ (hP _ _ rfl)).1
theorem nw_pSC_P (k j : Nat) (h : nw_dP k j = true) : nw_pSC k j = false := by
  simp only [nw_dP, nw_pSC, Bool.or_eq_true, Bool.and_eq_true, beq_iff_eq, Bool.or_eq_false_iff, Bool.and_eq_false_iff, beq_eq_false_iff_ne, decide_eq_false_iff_not] at h ⊢
  omega
theorem nw_pSC_W (k j : Nat) (h : nw_dW k j = true) : nw_pSC k j = false := by
  simp only [nw_dW, nw_pSC, Bool.or_eq_true, Bool.and_eq_true, beq_iff_eq, Bool.or_eq_false_iff, Bool.and_eq_false_iff, beq_eq_false_iff_ne, decide_eq_false_iff_not] at h ⊢
  omega
theorem nw_net.scr {σ τ : jv_S} (h : nw_net N σ) (hf : nw_f nw_pSC σ τ) : nw_net N τ := h.keep hf nw_pSC_C nw_pSC_M (fun _ => rfl) (fun _ => rfl) (fun j hj => by simp [nw_pSC]; omega)
/-- a question leaves all as it was -/
theorem nw_scr {c c' : Nat} {σ τ : jv_S} (h : nw_net N σ ∧ nw_IP N c σ ∧ nw_IW N σ) (hc : c ≤ c') (hf : nw_f nw_pSC σ τ) : nw_I c' τ := ⟨N, h.1.scr hf, h.2.1.keep hc hf nw_pSC_P, h.2.2.keep hf nw_pSC_W⟩
/-! the checks of both sides -/
theorem nw_in0 {ρ : jv_S} {p : Int32} {n : Nat} (hn : n < 2 ^ 30) : (∃ j, j < n ∧ p = nI j ∧ f_X8_in ρ p (0 : Int32) (nI n - (1 : Int32)) = true) ∨ ((p < 0 ∨ nI n ≤ p) ∧ f_X8_in ρ p (0 : Int32) (nI n - (1 : Int32)) = false) := by
  unfold f_X8_in
  rw [nw_lt]
  rcases pk_ix p (n := n) (by omega) with h | h | ⟨j, h, rfl⟩
  · right; exact ⟨Or.inl h, if_pos h⟩
  · right
    refine ⟨Or.inr h, ?_⟩
    by_cases c : p < 0
    · rw [if_pos c]
    · rw [if_neg c, if_pos]
      rw [fa_lt]
      rw [fa_le, nI_toInt (by omega)] at h
      rw [show (1 : Int32) = nI 1 from rfl, pk_sub_toInt (by omega) (by omega)]
      omega
  · left
    refine ⟨j, h, rfl, ?_⟩
    rw [if_neg (nI_pos (by omega)), if_neg]
    rw [show (1 : Int32) = nI 1 from rfl, pk_sub (by omega)]
    exact nI_nlt (by omega) (by omega)
theorem nw_hasC {n : Nat} {p y : Int32} (hy : y = nI n) (hn : n < 2 ^ 30) : (∃ j, j < n ∧ p = nI j ∧ (if p < 0 then false else (if y ≤ p then false else true)) = true) ∨ ((p < 0 ∨ nI n ≤ p) ∧ (if p < 0 then false else (if y ≤ p then false else true)) = false) := by
  subst hy
  rcases pk_ix p (n := n) (by omega) with h | h | ⟨j, h, rfl⟩
  · right; exact ⟨Or.inl h, if_pos h⟩
  · right; refine ⟨Or.inr h, ?_⟩; rw [if_pos h]; split <;> rfl
  · left; exact ⟨j, h, rfl, by rw [if_neg (nI_pos (by omega)), if_neg (nI_ge h (by omega))]⟩
theorem nw_out2 {n j : Nat} (h : j < n) (hn : n < 2 ^ 30) : ¬ (nI j < 0 ∨ nI n ≤ nI j) := fun h2 => by
  rcases h2 with h2 | h2
  · exact nI_pos (by omega) h2
  · exact nI_ge h (by omega) h2
/-- a node for both, or for none -/
theorem nw_node {σ : jv_S} (h : nw_net N σ) (p : Int32) : (∃ j, j < nw_n N ∧ p = nI j ∧ f_X3_hasNode σ p = true ∧ ∀ ρ, ρ.1 35 1 = nI (nw_n N) → f_X8_isNode ρ p = true) ∨ (f_X3_hasNode σ p = false ∧ ∀ ρ, ρ.1 35 1 = nI (nw_n N) → f_X8_isNode ρ p = false) := by
  have hn := h.1.n
  rcases nw_hasC (p := p) h.2.1.1 (by omega) with ⟨j, h1, h2, h3⟩ | ⟨h2, h3⟩
  · left
    refine ⟨j, h1, h2, h3, fun ρ hρ => ?_⟩
    unfold f_X8_isNode
    rw [hρ]
    rcases nw_in0 (ρ := ρ) (p := p) (n := nw_n N) (by omega) with ⟨_, _, _, h⟩ | ⟨hh, _⟩
    · exact h
    · rw [h2] at hh; exact absurd hh (nw_out2 h1 (by omega))
  · right
    refine ⟨h3, fun ρ hρ => ?_⟩
    unfold f_X8_isNode
    rw [hρ]
    rcases nw_in0 (ρ := ρ) (p := p) (n := nw_n N) (by omega) with ⟨j, h1, h4, _⟩ | ⟨_, hh⟩
    · rw [h4] at h2; exact absurd h2 (nw_out2 h1 (by omega))
    · exact hh
theorem nw_edge {σ : jv_S} (h : nw_net N σ) (p : Int32) : (∃ j, j < nw_m N ∧ p = nI j ∧ f_X3_hasEdge σ p = true ∧ ∀ ρ, ρ.1 35 2 = nI (nw_m N) → f_X8_isEdge ρ p = true) ∨ (f_X3_hasEdge σ p = false ∧ ∀ ρ, ρ.1 35 2 = nI (nw_m N) → f_X8_isEdge ρ p = false) := by
  have hn := h.1.n
  rcases nw_hasC (p := p) h.2.1.2.1 (by omega) with ⟨j, h1, h2, h3⟩ | ⟨h2, h3⟩
  · left
    refine ⟨j, h1, h2, h3, fun ρ hρ => ?_⟩
    unfold f_X8_isEdge
    rw [hρ]
    rcases nw_in0 (ρ := ρ) (p := p) (n := nw_m N) (by omega) with ⟨_, _, _, h⟩ | ⟨hh, _⟩
    · exact h
    · rw [h2] at hh; exact absurd hh (nw_out2 h1 (by omega))
  · right
    refine ⟨h3, fun ρ hρ => ?_⟩
    unfold f_X8_isEdge
    rw [hρ]
    rcases nw_in0 (ρ := ρ) (p := p) (n := nw_m N) (by omega) with ⟨j, h1, h4, _⟩ | ⟨_, hh⟩
    · rw [h4] at h2; exact absurd h2 (nw_out2 h1 (by omega))
    · exact hh
theorem nw_nodes2 {σ : jv_S} (h : nw_net N σ) (p q : Int32) : (∃ i j, i < nw_n N ∧ j < nw_n N ∧ p = nI i ∧ q = nI j ∧ f_X7_requireNodes σ p q = .ok () ∧ ∀ ρ, ρ.1 35 1 = nI (nw_n N) → f_X8_areNodes ρ p q = true) ∨ (f_X7_requireNodes σ p q = .error "java/lang/IllegalArgumentException" ∧ ∀ ρ, ρ.1 35 1 = nI (nw_n N) → f_X8_areNodes ρ p q = false) := by
  unfold f_X7_requireNodes f_X8_areNodes
  rcases nw_node h p with ⟨i, a1, a2, a3, a4⟩ | ⟨a3, a4⟩
  · rcases nw_node h q with ⟨j, b1, b2, b3, b4⟩ | ⟨b3, b4⟩
    · left
      exact ⟨i, j, a1, b1, a2, b2, by rw [if_pos a3, if_pos b3], fun ρ hρ => by rw [if_pos (a4 ρ hρ), if_pos (b4 ρ hρ), nw_lt]⟩
    · right
      exact ⟨by rw [if_pos a3, if_neg (by rw [b3]; decide)], fun ρ hρ => by rw [if_pos (a4 ρ hρ), if_neg (by rw [b4 ρ hρ]; decide), nw_lt]⟩
  · right
    exact ⟨by rw [if_neg (by rw [a3]; decide)], fun ρ hρ => by rw [if_neg (by rw [a4 ρ hρ]; decide), nw_lt]⟩
theorem nw_two {σ : jv_S} (h : nw_net N σ) (p q : Int32) : (∃ i j, i < nw_n N ∧ j < nw_n N ∧ i ≠ j ∧ p = nI i ∧ q = nI j ∧ f_X7_requireTwoNodes σ p q = .ok () ∧ ∀ ρ, ρ.1 35 1 = nI (nw_n N) → f_X8_areTwo ρ p q = true) ∨ (f_X7_requireTwoNodes σ p q = .error "java/lang/IllegalArgumentException" ∧ ∀ ρ, ρ.1 35 1 = nI (nw_n N) → f_X8_areTwo ρ p q = false) := by
  have hn := h.1.n
  unfold f_X7_requireTwoNodes f_X8_areTwo
  rcases nw_nodes2 h p q with ⟨i, j, a1, a2, a3, a4, a5, a6⟩ | ⟨a5, a6⟩
  · by_cases c : i = j
    · right
      exact ⟨by rw [a5]; show (if p = q then _ else _) = _; rw [if_pos (by rw [a3, a4, c])], fun ρ hρ => by rw [if_pos (a6 ρ hρ), if_pos (by rw [a3, a4, c]), nw_lt]⟩
    · left
      have hpq : ¬ p = q := fun e => c (by rw [a3, a4] at e; exact (nI_eq (by omega) (by omega)).mp e)
      exact ⟨i, j, a1, a2, c, a3, a4, by rw [a5]; show (if p = q then _ else _) = _; rw [if_neg hpq], fun ρ hρ => by rw [if_pos (a6 ρ hρ), if_neg hpq, nw_lt]⟩
  · right
    exact ⟨by rw [a5]; rfl, fun ρ hρ => by rw [if_neg (by rw [a6 ρ hρ]; decide), nw_lt]⟩
theorem nw_range {σ : jv_S} (p lo hi : Int32) : (lo ≤ p ∧ p ≤ hi ∧ f_X7_requireRange σ p lo hi = .ok () ∧ ∀ ρ, f_X8_in ρ p lo hi = true) ∨ (f_X7_requireRange σ p lo hi = .error "java/lang/IllegalArgumentException" ∧ ∀ ρ, f_X8_in ρ p lo hi = false) := by
  unfold f_X7_requireRange f_X8_in
  by_cases c1 : p < lo
  · right; exact ⟨by rw [if_pos c1], fun ρ => by rw [if_pos c1, nw_lt]⟩
  · by_cases c2 : p ≤ hi
    · left
      refine ⟨by rw [fa_le]; rw [fa_lt] at c1; omega, c2, by rw [if_neg c1, if_pos c2], fun ρ => ?_⟩
      rw [if_neg c1, if_neg, nw_lt]
      rw [fa_lt]; rw [fa_le] at c2; omega
    · right
      refine ⟨by rw [if_neg c1, if_neg c2], fun ρ => ?_⟩
      rw [if_neg c1, if_pos, nw_lt]
      rw [fa_lt]; rw [fa_le] at c2; omega
theorem nw_rng {p : Int32} {lo hi : Nat} (hl : lo < 2 ^ 31) (hh : hi < 2 ^ 31) (h1 : nI lo ≤ p) (h2 : p ≤ nI hi) : ∃ v, p = nI v ∧ lo ≤ v ∧ v ≤ hi := by
  rw [fa_le, nI_toInt hl] at h1
  rw [fa_le, nI_toInt hh] at h2
  refine ⟨p.toInt.toNat, ?_, by omega, by omega⟩
  apply Int32.toInt_inj.mp
  rw [nI_toInt (by omega)]
  omega
/-! the comparison at a call's end -/
noncomputable def nw_fin (k : Int32) (q : Int32 × jv_S) : Option jv_S := if (f_X8_thrown q.2) = k then (if k = 0 then (if jv_ck (0 : Int32) 1 = true then (if (lg_cmp (q.2.2 61 (0 : Int32).toNatClampNeg) q.1.toInt64) = 0 then (some q.2) else (none)) else none) else (some q.2)) else (none)
theorem nw_cmpr (x : Int64) : lg_cmp x x = 0 := by
  unfold lg_cmp
  rw [if_neg (fun h => by rw [gt_iff_lt, fa_lt64] at h; omega), if_pos rfl]
theorem nw_finE {q : Int32 × jv_S} {k : Nat} (hk : k < 2 ^ 31) (h0 : 0 < k) (h : q.2.1 35 0 = nI k) : nw_fin (nI k) q = some q.2 := by
  unfold nw_fin f_X8_thrown
  rw [if_pos h, if_neg (nI_ne0 h0 hk)]
theorem nw_finO {q : Int32 × jv_S} {x : Int32} (h : q.2.1 35 0 = nI 0) (h1 : q.2.2 61 0 = x.toInt64) (h2 : q.1 = x) : nw_fin (0 : Int32) q = some q.2 := by
  unfold nw_fin f_X8_thrown
  rw [if_pos (show q.2.1 35 0 = (0 : Int32) from h), if_pos rfl, if_pos (by decide), if_pos]
  show lg_cmp (q.2.2 61 0) _ = 0
  rw [h1, h2, nw_cmpr]
end NWINV
