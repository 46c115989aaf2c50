/-! ===== what one object holds: its network, its draws; what a call answers is told by that alone ===== -/
def nx_net (N : nw_N) (σ : jv_S) : Prop := nw_W N ∧ nw_C0 N σ ∧ nw_C1 N σ ∧ ∀ v, v < 10 → σ.1 27 (24 + v) = nI 0
def nx_rank (N : nw_N) (fr to cur : Nat) : Nat := (nw_ap N fr to).countP (fun p => decide (nw_key N p ≤ cur))
/-- the path of rank k -/
def nx_kth (N : nw_N) (fr to k : Nat) (q : List Nat) : Prop := q ∈ nw_ap N fr to ∧ nx_rank N fr to (nw_key N q) = k + 1
def nx_cur (N : nw_N) (fr to k cur : Nat) : Prop := (k = 0 ∧ cur = 0) ∨ ∃ q j, k = j + 1 ∧ nx_kth N fr to j q ∧ cur = nw_key N q
def nx_P (N : nw_N) (P : Option (Nat × Nat × Nat)) (σ : jv_S) : Prop := match P with
  | none => σ.1 0 7 = 0
  | some (fr, to, k) => σ.1 0 7 = 1 ∧ fr < nw_n N ∧ to < nw_n N ∧ fr ≠ to ∧ k < 2 ^ 30 ∧ ∃ cur, cur < 2 ^ 62 ∧ nw_CP N fr to cur k σ ∧ nx_cur N fr to k cur
def nx_K (N : nw_N) (P : Option (Nat × Nat × Nat)) (σ : jv_S) : Prop := match P with
  | none => σ.1 0 8 = 0
  | some (fr, to, k) => σ.1 0 8 = 1 ∧ fr < nw_n N ∧ to < nw_n N ∧ k ≤ 50 ∧ nw_WC N fr to k σ
abbrev nx_Pic : Type := nw_N × Option (Nat × Nat × Nat) × Option (Nat × Nat × Nat)
def nx_H (p : nx_Pic) (σ : jv_S) : Prop := nx_net p.1 σ ∧ nx_P p.1 p.2.1 σ ∧ nx_K p.1 p.2.2 σ
/-- f answers a and leaves p', whatever else the object holds -/
def nx_D {α : Type} (p : nx_Pic) (f : jv_S → Option (α × jv_S)) (a : α) (p' : nx_Pic) : Prop := ∀ σ, nx_H p σ → ∃ τ, f σ = some (a, τ) ∧ nx_H p' τ
theorem nx_det {α : Type} {p : nx_Pic} {f : jv_S → Option (α × jv_S)} {R : α → nx_Pic → Prop} (hu : ∀ a b p1 p2, R a p1 → R b p2 → a = b ∧ p1 = p2) (h : ∀ σ, nx_H p σ → ∃ a p' τ, R a p' ∧ f σ = some (a, τ) ∧ nx_H p' τ) {σ0 : jv_S} (h0 : nx_H p σ0) : ∃ a p', R a p' ∧ nx_D p f a p' := by
  obtain ⟨a, p', τ, h1, h2, h3⟩ := h σ0 h0
  refine ⟨a, p', h1, fun σ hσ => ?_⟩
  obtain ⟨b, p2, τ2, g1, g2, g3⟩ := h σ hσ
  obtain ⟨e1, e2⟩ := hu a b p' p2 h1 g1
  subst e1; subst e2
  exact ⟨τ2, g2, g3⟩
/-! ===== frames ===== -/
def nx_pS (k j : Nat) : Bool := (k == 9 || k == 13 || k == 14 || k == 16) || (k == 24 || k == 25 || k == 26 || k == 28 || k == 29 || k == 30 || k == 31) || (k == 27 && decide (j < 24)) || (k == 32 || k == 33 || k == 34)
def nx_dP (k j : Nat) : Bool := (k == 0 && j == 7) || k == 10 || k == 11
def nx_dW (k j : Nat) : Bool := (k == 0 && j == 8) || k == 17 || (k == 18 || k == 19 || k == 20 || k == 21 || k == 22 || k == 23)
section NXF
variable {N : nw_N}
theorem nx_pS_C (k j : Nat) (h : nw_pC k j = true) : nx_pS k j = false := by
  simp only [nw_pC, nx_pS, Bool.or_eq_true, Bool.and_eq_true, beq_iff_eq, Bool.or_eq_false_iff, Bool.and_eq_false_iff, beq_eq_false_iff_ne, decide_eq_false_iff_not] at h ⊢
  omega
theorem nx_pS_P (k j : Nat) (h : nx_dP k j = true) : nx_pS k j = false := by
  simp only [nx_dP, nx_pS, Bool.or_eq_true, Bool.and_eq_true, beq_iff_eq, Bool.or_eq_false_iff, Bool.and_eq_false_iff, beq_eq_false_iff_ne, decide_eq_false_iff_not] at h ⊢
  omega
theorem nx_pS_W (k j : Nat) (h : nx_dW k j = true) : nx_pS k j = false := by
  simp only [nx_dW, nx_pS, Bool.or_eq_true, Bool.and_eq_true, beq_iff_eq, Bool.or_eq_false_iff, Bool.and_eq_false_iff, beq_eq_false_iff_ne, decide_eq_false_iff_not] at h ⊢
  omega
theorem nx_net.keep {σ τ : jv_S} {P : Nat → Nat → Bool} (h : nx_net N σ) (hf : nw_f P σ τ) (hC : ∀ k j, nw_pC k j = true → P k j = false) (h6 : ∀ j, P 6 j = false) (h7 : ∀ j, P 7 j = false) (h27 : ∀ j, 24 ≤ j → P 27 j = false) : nx_net N τ := by
  obtain ⟨a1, a2, a3, a5⟩ := h
  exact ⟨a1, hf.keepC a2 hC, hf.keepD a3 h6 h7, fun v hv => by rw [(hf 27 _ (h27 _ (by omega))).1, a5 v hv]⟩
theorem nw_CP.keep {fr to cur drawn : Nat} {σ τ : jv_S} (h : nw_CP N fr to cur drawn σ) (h10 : ∀ j, j = 3 ∨ j = 4 ∨ j = 5 ∨ j = 6 ∨ j = 7 → τ.1 10 j = σ.1 10 j) (h8 : τ.2 10 8 = σ.2 10 8) (h11 : τ.2 11 = σ.2 11) : nw_CP N fr to cur drawn τ := by
  obtain ⟨pg, nx, a1, a2, a3, a4, ⟨b1, b2, b3, b4⟩, a6, a7, a8⟩ := h
  exact ⟨pg, nx, by rw [h10 5 (by omega), a1], by rw [h10 6 (by omega), a2], by rw [h10 7 (by omega), a3], by rw [h8, a4], ⟨b1, by rw [h10 3 (by omega), b2], by rw [h11]; exact b3, b4⟩, by rw [h10 4 (by omega), a6], a7, a8⟩
theorem nw_WC.keep {fr to drawn : Nat} {σ τ : jv_S} (h : nw_WC N fr to drawn σ) (h17 : ∀ j, j = 7 ∨ j = 8 → τ.1 17 j = σ.1 17 j) (hr : ∀ k, 18 ≤ k → k ≤ 23 → τ.1 k = σ.1 k) : nw_WC N fr to drawn τ := by
  obtain ⟨a1, a2, cnt, tot, a3, a4⟩ := h
  exact ⟨by rw [h17 7 (by omega), a1], by rw [h17 8 (by omega), a2], cnt, tot, a3.keep hr, a4⟩
theorem nx_P.keep {P0 : Option (Nat × Nat × Nat)} {σ τ : jv_S} {P : Nat → Nat → Bool} (h : nx_P N P0 σ) (hf : nw_f P σ τ) (hP : ∀ k j, nx_dP k j = true → P k j = false) : nx_P N P0 τ := by
  match P0, h with
  | none, h =>
    show τ.1 0 7 = 0
    rw [(hf 0 7 (hP _ _ rfl)).1]; exact h
  | some (fr, to, k), ⟨h1, a1, a2, a3, a4, cur, a5, a6, a7⟩ =>
    exact ⟨by rw [(hf 0 7 (hP _ _ rfl)).1]; exact h1, a1, a2, a3, a4, cur, a5, a6.keep (fun j _ => (hf 10 j (hP _ _ rfl)).1) (hf 10 8 (hP _ _ rfl)).2 (hf.lng (fun j => hP 11 j rfl)).2, a7⟩
theorem nx_K.keep {P0 : Option (Nat × Nat × Nat)} {σ τ : jv_S} {P : Nat → Nat → Bool} (h : nx_K N P0 σ) (hf : nw_f P σ τ) (hP : ∀ k j, nx_dW k j = true → P k j = false) : nx_K N P0 τ := by
  match P0, h with
  | none, h =>
    show τ.1 0 8 = 0
    rw [(hf 0 8 (hP _ _ rfl)).1]; exact h
  | some (fr, to, k), ⟨h1, a1, a2, a3, a4⟩ =>
    refine ⟨by rw [(hf 0 8 (hP _ _ rfl)).1]; exact h1, a1, a2, a3, a4.keep (fun j _ => (hf 17 j (hP _ _ rfl)).1) (fun k h1 h2 => (hf.lng (fun j => hP k j ?_)).1)⟩
    have : k = 18 ∨ k = 19 ∨ k = 20 ∨ k = 21 ∨ k = 22 ∨ k = 23 := by omega
    rcases this with rfl | rfl | rfl | rfl | rfl | rfl <;> rfl
/-- a question leaves all as it was -/
theorem nx_scr {p : nx_Pic} {σ τ : jv_S} (h : nx_H p σ) (hf : nw_f nx_pS σ τ) : nx_H p τ :=
  ⟨h.1.keep hf nx_pS_C (fun _ => rfl) (fun _ => rfl) (fun j hj => by simp [nx_pS]; omega), h.2.1.keep hf nx_pS_P, h.2.2.keep hf nx_pS_W⟩
theorem nx_pSr {a : Nat} (ha : a = 9 ∨ a = 13 ∨ a = 14 ∨ a = 16 ∨ a = 33) {σ τ : jv_S} (h : nw_f (nw_r a) σ τ) : nw_f nx_pS σ τ := h.mono (fun k j h => by
  simp only [nx_pS, nw_r, Bool.or_eq_false_iff, Bool.and_eq_false_iff, beq_eq_false_iff_ne, decide_eq_false_iff_not] at h ⊢; omega)
theorem nx_pST {σ τ : jv_S} (h : nw_f nw_pT σ τ) : nw_f nx_pS σ τ := h.mono (fun k j h => by
  simp only [nx_pS, nw_pT, Bool.or_eq_false_iff, Bool.and_eq_false_iff, beq_eq_false_iff_ne, decide_eq_false_iff_not] at h ⊢; omega)
/-! ===== the looks at what a call is given ===== -/
theorem nx_xeE {α β : Type} {e : String} {f : String → β} {g : α → β} : jv_xe (.error e : Except String α) f g = f e := rfl
theorem nx_xeO {α β : Type} {a : α} {f : String → β} {g : α → β} : jv_xe (.ok a : Except String α) f g = g a := rfl
theorem nx_ltF {x : Nat} (h : x < 1000000000) : nI x < (1000000000 : Int32) := nI_lt (b := 1000000000) h (by omega)
theorem nx_nltF {x : Nat} (h : ¬ x < 1000000000) (hb : x < 2 ^ 31) : ¬ nI x < (1000000000 : Int32) := nI_nlt (b := 1000000000) (by omega) hb
theorem nx_hasC {n : Nat} {p y : Int32} (hy : y = nI n) (hn : n < 2 ^ 30) : (∃ j, j < n ∧ p = nI j ∧ (if p < 0 then false else (if y ≤ p then false else true)) = true) ∨ ((p < 0 ∨ nI n ≤ p) ∧ (if p < 0 then false else (if y ≤ p then false else true)) = false) := by
  subst hy
  rcases pk_ix p (n := n) (by omega) with h | h | ⟨j, h, rfl⟩
  · right; exact ⟨Or.inl h, if_pos h⟩
  · right; refine ⟨Or.inr h, ?_⟩; rw [if_pos h]; split <;> rfl
  · left; exact ⟨j, h, rfl, by rw [if_neg (nI_pos (by omega)), if_neg (nI_ge h (by omega))]⟩
theorem nx_out2 {n j : Nat} (h : j < n) (hn : n < 2 ^ 30) : ¬ (nI j < 0 ∨ nI n ≤ nI j) := fun h2 => by
  rcases h2 with h2 | h2
  · exact nI_pos (by omega) h2
  · exact nI_ge h (by omega) h2
/-- no node, no edge: told by the network alone -/
def nx_nn (n : Nat) (p : Int32) : Prop := p < 0 ∨ nI n ≤ p
theorem nx_node {σ : jv_S} (h : nx_net N σ) (p : Int32) : (∃ j, j < nw_n N ∧ p = nI j ∧ f_X3_hasNode σ p = true) ∨ (nx_nn (nw_n N) p ∧ f_X3_hasNode σ p = false) := by
  have hn := h.1.n
  rcases nx_hasC (p := p) h.2.1.1 (by omega) with ⟨j, h1, h2, h3⟩ | ⟨h2, h3⟩
  · exact Or.inl ⟨j, h1, h2, h3⟩
  · exact Or.inr ⟨h2, h3⟩
theorem nx_edge {σ : jv_S} (h : nx_net N σ) (p : Int32) : (∃ j, j < nw_m N ∧ p = nI j ∧ f_X3_hasEdge σ p = true) ∨ (nx_nn (nw_m N) p ∧ f_X3_hasEdge σ p = false) := by
  have hn := h.1.n
  rcases nx_hasC (p := p) h.2.1.2.1 (by omega) with ⟨j, h1, h2, h3⟩ | ⟨h2, h3⟩
  · exact Or.inl ⟨j, h1, h2, h3⟩
  · exact Or.inr ⟨h2, h3⟩
theorem nx_nodes2 {σ : jv_S} (h : nx_net N σ) (p q : Int32) : (∃ i j, i < nw_n N ∧ j < nw_n N ∧ p = nI i ∧ q = nI j ∧ f_X7_requireNodes σ p q = .ok ()) ∨ ((nx_nn (nw_n N) p ∨ nx_nn (nw_n N) q) ∧ f_X7_requireNodes σ p q = .error "java/lang/IllegalArgumentException") := by
  unfold f_X7_requireNodes
  rcases nx_node h p with ⟨i, a1, a2, a3⟩ | ⟨a2, a3⟩
  · rcases nx_node h q with ⟨j, b1, b2, b3⟩ | ⟨b2, b3⟩
    · left
      exact ⟨i, j, a1, b1, a2, b2, by rw [if_pos a3, if_pos b3]⟩
    · right
      exact ⟨Or.inr b2, by rw [if_pos a3, if_neg (by rw [b3]; decide)]⟩
  · right
    exact ⟨Or.inl a2, by rw [if_neg (by rw [a3]; decide)]⟩
theorem nx_two {σ : jv_S} (h : nx_net N σ) (p q : Int32) : (∃ i j, i < nw_n N ∧ j < nw_n N ∧ i ≠ j ∧ p = nI i ∧ q = nI j ∧ f_X7_requireTwoNodes σ p q = .ok ()) ∨ ((nx_nn (nw_n N) p ∨ nx_nn (nw_n N) q ∨ p = q) ∧ f_X7_requireTwoNodes σ p q = .error "java/lang/IllegalArgumentException") := by
  have hn := h.1.n
  unfold f_X7_requireTwoNodes
  rcases nx_nodes2 h p q with ⟨i, j, a1, a2, a3, a4, a5⟩ | ⟨a1, a5⟩
  · by_cases c : i = j
    · right
      exact ⟨Or.inr (Or.inr (by rw [a3, a4, c])), by rw [a5]; show (if p = q then _ else _) = _; rw [if_pos (by rw [a3, a4, c])]⟩
    · left
      have hpq : ¬ p = q := fun e => c (by rw [a3, a4] at e; exact (nI_eq (by omega) (by omega)).mp e)
      exact ⟨i, j, a1, a2, c, a3, a4, by rw [a5]; show (if p = q then _ else _) = _; rw [if_neg hpq]⟩
  · right
    refine ⟨?_, by rw [a5]; rfl⟩
    rcases a1 with a1 | a1
    · exact Or.inl a1
    · exact Or.inr (Or.inl a1)
/-- .. so that both can't be said of one network -/
theorem nx_two_no {n : Nat} {p q : Int32} {i j : Nat} (hn : n ≤ 10) (hi : i < n) (hj : j < n) (hne : i ≠ j) (hp : p = nI i) (hq : q = nI j) : ¬ (nx_nn n p ∨ nx_nn n q ∨ p = q) := fun h => by
  subst hp; subst hq
  rcases h with h | h | h
  · exact nx_out2 hi (by omega) h
  · exact nx_out2 hj (by omega) h
  · exact hne ((nI_eq (by omega) (by omega)).mp h)
theorem nx_range {σ : jv_S} (p lo hi : Int32) : (lo ≤ p ∧ p ≤ hi ∧ f_X7_requireRange σ p lo hi = .ok ()) ∨ (¬ (lo ≤ p ∧ p ≤ hi) ∧ f_X7_requireRange σ p lo hi = .error "java/lang/IllegalArgumentException") := by
  unfold f_X7_requireRange
  by_cases c1 : p < lo
  · right; exact ⟨fun h => by have h1 := h.1; rw [fa_le] at h1; rw [fa_lt] at c1; omega, by rw [if_pos c1]⟩
  · by_cases c2 : p ≤ hi
    · left
      exact ⟨by rw [fa_le]; rw [fa_lt] at c1; omega, c2, by rw [if_neg c1, if_pos c2]⟩
    · right
      exact ⟨fun h => c2 h.2, by rw [if_neg c1, if_neg c2]⟩
theorem nx_rng {p : Int32} {lo hi : Nat} (hl : lo < 2 ^ 31) (hh : hi < 2 ^ 31) (h1 : nI lo ≤ p) (h2 : p ≤ nI hi) : ∃ v, p = nI v ∧ lo ≤ v ∧ v ≤ hi := by
  rw [fa_le, nI_toInt hl] at h1
  rw [fa_le, nI_toInt hh] at h2
  refine ⟨p.toInt.toNat, ?_, by omega, by omega⟩
  apply Int32.toInt_inj.mp
  rw [nI_toInt (by omega)]
  omega
theorem nx_in {v lo hi : Nat} (h1 : lo ≤ v) (h2 : v ≤ hi) (hh : hi < 2 ^ 31) : nI lo ≤ nI v ∧ nI v ≤ nI hi := ⟨nI_le h1 (by omega), nI_le h2 hh⟩
end NXF
