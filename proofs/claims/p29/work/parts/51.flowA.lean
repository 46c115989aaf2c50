/-! ===== cheapest flows: a round of shortest ways through arcs with room ===== -/
def nw_fr (tl hd : Nat → Nat) (q : Nat × Bool) : Nat := if q.2 = true then tl q.1 else hd q.1
def nw_to (tl hd : Nat → Nat) (q : Nat × Bool) : Nat := if q.2 = true then hd q.1 else tl q.1
def nw_cq (c : Nat → Nat) (q : Nat × Bool) : Int := if q.2 = true then (c q.1 : Int) else -(c q.1 : Int)
/-- an arc with room, in a direction -/
def nw_re (u x : Nat → Nat) (q : Nat × Bool) : Prop := q.1 < 34 ∧ ((q.2 = true ∧ x q.1 < u q.1) ∨ (q.2 = false ∧ 0 < x q.1))
/-- a network of arcs -/
def nw_gnt (tl hd c u : Nat → Nat) (s t : Nat) : Prop := (∀ a, a < 34 → 0 < u a → tl a < 20 ∧ hd a < 20 ∧ tl a ≠ hd a ∧ c a ≤ 1000) ∧ s < 20 ∧ t < 20 ∧ s ≠ t
abbrev nw_B : Type := (Nat → Nat) × (Nat → Nat × Bool) × (Nat → Nat) × Nat
def nw_qb (s p L : Nat) : Prop := p = s ∧ L = 0
def nw_qa (tl hd c u x : Nat → Nat) (π : Nat → Int) (p w o : Nat) : Prop := ∃ q, nw_re u x q ∧ nw_to tl hd q = p ∧ nw_fr tl hd q = o ∧ (w : Int) = nw_cq c q + π o - π p
/-- what holds between the steps of a search -/
def nw_BI (tl hd c u x : Nat → Nat) (s : Nat) (π : Nat → Int) (b : nw_B) : Prop :=
  b.1 s = 0 ∧ (∀ p, p < 20 → b.1 p ≤ 1000000000) ∧
  (∀ p, p < 20 → b.1 p < 1000000000 → π p ≤ (b.1 p : Int) ∧ ∃ h, bf_R (nw_qb s) (nw_qa tl hd c u x π) p h ((b.1 p : Int) - π p).toNat) ∧
  (∀ p, p < 20 → b.1 p < 1000000000 → p ≠ s → nw_re u x (b.2.1 p) ∧ nw_to tl hd (b.2.1 p) = p ∧ b.1 (nw_fr tl hd (b.2.1 p)) < 1000000000 ∧ (b.1 (nw_fr tl hd (b.2.1 p)) : Int) + nw_cq c (b.2.1 p) ≤ (b.1 p : Int) ∧ ((b.1 (nw_fr tl hd (b.2.1 p)) : Int) - π (nw_fr tl hd (b.2.1 p)) < (b.1 p : Int) - π p ∨ ((b.1 (nw_fr tl hd (b.2.1 p)) : Int) - π (nw_fr tl hd (b.2.1 p)) = (b.1 p : Int) - π p ∧ b.2.2.1 (nw_fr tl hd (b.2.1 p)) < b.2.2.1 p))) ∧
  (∀ p, p < 20 → b.2.2.1 p ≤ b.2.2.2) ∧
  ∀ p, p < 20 → b.1 p < 1000000000 → b.1 p ≤ 1000 * (List.range' 0 20).countP (fun g => decide (b.1 g < 1000000000))
/-- a good flow and its prices -/
def nw_G (tl hd c u : Nat → Nat) (s t : Nat) (val : Nat) (x : Nat → Nat) (π : Nat → Int) : Prop :=
  (∀ a, a < 34 → x a ≤ u a) ∧ fl_F 34 tl hd s t (fun a => (x a : Int)) (val : Int) ∧ fl_P 34 tl hd (fun a => (c a : Int)) (fun a => (u a : Int)) (fun a => (x a : Int)) π ∧ π s = 0 ∧ ∀ p, p < 20 → 0 ≤ π p ∧ π p ≤ π t
def nw_up (b : nw_B) (p : Nat) (q : Nat × Bool) (v : Nat) : nw_B := (nw_u1 b.1 p v, fun p' => if p' = p then q else b.2.1 p', nw_u1 b.2.2.1 p (b.2.2.2 + 1), b.2.2.2 + 1)
section NWF
variable {tl hd c u x : Nat → Nat} {s t : Nat} {π : Nat → Int} {val : Nat}
theorem nw_re_pt (hN : nw_gnt tl hd c u s t) (hx : ∀ a, a < 34 → x a ≤ u a) {q : Nat × Bool} (h : nw_re u x q) : nw_fr tl hd q < 20 ∧ nw_to tl hd q < 20 ∧ nw_fr tl hd q ≠ nw_to tl hd q ∧ nw_cq c q ≤ 1000 := by
  have h1 := hx q.1 h.1
  have h2 : 0 < u q.1 := by rcases h.2 with h | h <;> omega
  obtain ⟨g1, g2, g3, g4⟩ := hN.1 q.1 h.1 h2
  unfold nw_fr nw_to nw_cq
  split
  · exact ⟨g1, g2, g3, by omega⟩
  · exact ⟨g2, g1, fun e => g3 e.symm, by omega⟩
/-- reduced lengths aren't negative -/
theorem nw_slack (hG : nw_G tl hd c u s t val x π) {q : Nat × Bool} (h : nw_re u x q) : 0 ≤ nw_cq c q + π (nw_fr tl hd q) - π (nw_to tl hd q) := by
  have p1 : (x q.1 : Int) < (u q.1 : Int) → 0 ≤ (c q.1 : Int) + π (tl q.1) - π (hd q.1) := (hG.2.2.1 q.1 h.1).1
  have p2 : 0 < (x q.1 : Int) → (c q.1 : Int) + π (tl q.1) - π (hd q.1) ≤ 0 := (hG.2.2.1 q.1 h.1).2
  unfold nw_cq nw_fr nw_to
  rcases h.2 with ⟨e, h⟩ | ⟨e, h⟩
  · rw [if_pos e, if_pos e, if_pos e]
    have := p1 (by omega)
    omega
  · have e' : ¬ q.2 = true := by rw [e]; decide
    rw [if_neg e', if_neg e', if_neg e']
    have := p2 (by omega)
    omega
theorem nw_BI_up (hN : nw_gnt tl hd c u s t) (hG : nw_G tl hd c u s t val x π) {b : nw_B} (hI : nw_BI tl hd c u x s π b) {q : Nat × Bool} {v : Nat} (hq : nw_re u x q) (h1 : b.1 (nw_fr tl hd q) < 1000000000) (hv : (v : Int) = (b.1 (nw_fr tl hd q) : Int) + nw_cq c q) (h2 : v < b.1 (nw_to tl hd q)) : nw_BI tl hd c u x s π (nw_up b (nw_to tl hd q) q v) := by
  obtain ⟨i1, i2, i3, i4, i5, i6⟩ := hI
  obtain ⟨g1, g2, g3, g4⟩ := nw_re_pt hN hG.1 hq
  have hsl := nw_slack hG hq
  have hq3 := i3 _ g1 h1
  have hbt := i2 _ g2
  generalize hp : nw_to tl hd q = p at *
  generalize ho : nw_fr tl hd q = o at *
  have hvp : π p ≤ (v : Int) := by omega
  have hps : p ≠ s := fun e => by
    rw [e, i1] at h2
    omega
  have hdd : ∀ p', (nw_up b p q v).1 p' = if p' = p then v else b.1 p' := fun _ => rfl
  have hpar : ∀ p', (nw_up b p q v).2.1 p' = if p' = p then q else b.2.1 p' := fun _ => rfl
  have htm : ∀ p', (nw_up b p q v).2.2.1 p' = if p' = p then b.2.2.2 + 1 else b.2.2.1 p' := fun _ => rfl
  have hle : ∀ p', (nw_up b p q v).1 p' ≤ b.1 p' := fun p' => by
    rw [hdd]; split
    · rename_i e; rw [e]; omega
    · exact Nat.le_refl _
  refine ⟨by rw [hdd, if_neg (fun e => hps e.symm)]; exact i1, fun p' hp' => Nat.le_trans (hle p') (i2 p' hp'), fun p' hp' hr => ?_, fun p' hp' hr hns => ?_, fun p' hp' => ?_, fun p' hp' hr => ?_⟩
  · rw [hdd] at hr ⊢
    by_cases e : p' = p
    · subst e
      rw [if_pos rfl]
      refine ⟨hvp, ?_⟩
      obtain ⟨h, hR⟩ := hq3.2
      refine ⟨h + 1, ?_⟩
      have e1 : ((v : Int) - π p').toNat = (nw_cq c q + π o - π p').toNat + ((b.1 o : Int) - π o).toNat := by omega
      rw [e1]
      exact bf_R.step ⟨q, hq, hp, ho, by omega⟩ hR
    · rw [if_neg e] at hr ⊢
      exact i3 p' hp' hr
  · rw [hpar]
    by_cases e : p' = p
    · subst e
      rw [if_pos rfl, ho]
      have h3 : (nw_up b p' q v).1 o = b.1 o := by rw [hdd, if_neg g3]
      have h4 : (nw_up b p' q v).1 p' = v := by rw [hdd, if_pos rfl]
      have h5 : (nw_up b p' q v).2.2.1 o = b.2.2.1 o := by rw [htm, if_neg g3]
      have h6 : (nw_up b p' q v).2.2.1 p' = b.2.2.2 + 1 := by rw [htm, if_pos rfl]
      rw [h3, h4, h5, h6]
      refine ⟨hq, hp, h1, by omega, ?_⟩
      have := i5 o g1
      by_cases e2 : (b.1 o : Int) - π o = (v : Int) - π p'
      · exact Or.inr ⟨e2, by omega⟩
      · exact Or.inl (by omega)
    · rw [if_neg e]
      have hr' : b.1 p' < 1000000000 := by rw [hdd, if_neg e] at hr; exact hr
      obtain ⟨j1, j2, j3, j4, j5⟩ := i4 p' hp' hr' hns
      have h4 : (nw_up b p q v).1 p' = b.1 p' := by rw [hdd, if_neg e]
      have h6 : (nw_up b p q v).2.2.1 p' = b.2.2.1 p' := by rw [htm, if_neg e]
      rw [h4, h6]
      by_cases e2 : nw_fr tl hd (b.2.1 p') = p
      · have h3 : (nw_up b p q v).1 (nw_fr tl hd (b.2.1 p')) = v := by rw [hdd, if_pos e2]
        rw [h3]
        rw [e2] at j3 j4 j5 ⊢
        refine ⟨j1, j2, by omega, by omega, Or.inl ?_⟩
        rcases j5 with j5 | ⟨j5, _⟩ <;> omega
      · have h3 : (nw_up b p q v).1 (nw_fr tl hd (b.2.1 p')) = b.1 (nw_fr tl hd (b.2.1 p')) := by rw [hdd, if_neg e2]
        have h5 : (nw_up b p q v).2.2.1 (nw_fr tl hd (b.2.1 p')) = b.2.2.1 (nw_fr tl hd (b.2.1 p')) := by rw [htm, if_neg e2]
        rw [h3, h5]
        exact ⟨j1, j2, j3, j4, j5⟩
  · rw [htm]
    show _ ≤ b.2.2.2 + 1
    by_cases e : p' = p
    · rw [if_pos e]; exact Nat.le_refl _
    · rw [if_neg e]; have := i5 p' hp'; omega
  · have hcnt : (List.range' 0 20).countP (fun g => decide (b.1 g < 1000000000)) ≤ (List.range' 0 20).countP (fun g => decide ((nw_up b p q v).1 g < 1000000000)) := bf_cle (fun g _ hg => by
      simp only [decide_eq_true_eq] at hg ⊢
      exact Nat.lt_of_le_of_lt (hle g) hg)
    rw [hdd] at hr ⊢
    by_cases e : p' = p
    · subst e
      rw [if_pos rfl] at hr ⊢
      by_cases c1 : b.1 p' < 1000000000
      · have := i6 p' g2 c1; omega
      · have hlt : (List.range' 0 20).countP (fun g => decide (b.1 g < 1000000000)) < (List.range' 0 20).countP (fun g => decide ((nw_up b p' q v).1 g < 1000000000)) := bf_clt (y := p') (fun g _ hg => by
          simp only [decide_eq_true_eq] at hg ⊢
          exact Nat.lt_of_le_of_lt (hle g) hg) (by rw [nw_rgm]; omega) (by
          rw [decide_eq_true_eq, hdd, if_pos rfl]; exact hr) (by rw [decide_eq_true_eq]; exact c1)
        have := i6 o g1 h1
        omega
    · rw [if_neg e] at hr ⊢
      have := i6 p' hp' hr
      omega
theorem nw_small {b : nw_B} (hI : nw_BI tl hd c u x s π b) {p : Nat} (hp : p < 20) (h : b.1 p < 1000000000) : b.1 p ≤ 20000 := by
  have h1 := hI.2.2.2.2.2 p hp h
  have h2 := List.countP_le_length (p := fun g => decide (b.1 g < 1000000000)) (l := List.range' 0 20)
  rw [List.length_range'] at h2
  omega
/-- no arc with room shortens any more -/
def nw_cld (tl hd c u x : Nat → Nat) (d : Nat → Nat) : Prop := ∀ q, nw_re u x q → d (nw_fr tl hd q) < 1000000000 → (d (nw_to tl hd q) : Int) ≤ (d (nw_fr tl hd q) : Int) + nw_cq c q
def nw_X (π : Nat → Int) (d : Nat → Nat) (p : Nat) : Nat := if d p < 1000000000 then ((d p : Int) - π p).toNat else 1000000000000
theorem nw_X_le (hG : nw_G tl hd c u s t val x π) {d d' : Nat → Nat} (h : ∀ p, d' p ≤ d p) {p : Nat} (hp : p < 20) : nw_X π d' p ≤ nw_X π d p := by
  have h0 := (hG.2.2.2.2 p hp).1
  have h1 := h p
  unfold nw_X
  by_cases c1 : d p < 1000000000
  · rw [if_pos (by omega), if_pos c1]; omega
  · rw [if_neg c1]; split <;> omega
theorem nw_top (hN : nw_gnt tl hd c u s t) (hG : nw_G tl hd c u s t val x π) {b : nw_B} (hI : nw_BI tl hd c u x s π b) (hC : bf_C (nw_qb s) (nw_qa tl hd c u x π) 20 (nw_X π b.1)) : nw_cld tl hd c u x b.1 := by
  intro q hq hr
  obtain ⟨g1, g2, g3, g4⟩ := nw_re_pt hN hG.1 hq
  have hsl := nw_slack hG hq
  obtain ⟨h1, h, hR⟩ := hI.2.2.1 _ g1 hr
  have h0 := (hG.2.2.2.2 _ g1).1
  have h01 := (hG.2.2.2.2 _ g2).1
  have h02 := (hG.2.2.2.2 _ g2).2
  have h3 := hC _ (h + 1) _ g2 (bf_R.step (w := (nw_cq c q + π (nw_fr tl hd q) - π (nw_to tl hd q)).toNat) ⟨q, hq, rfl, rfl, by omega⟩ hR)
  unfold nw_X at h3
  by_cases c1 : b.1 (nw_to tl hd q) < 1000000000
  · rw [if_pos c1] at h3
    omega
  · rw [if_neg c1] at h3
    have hb := nw_small hI g1 hr
    omega
theorem nw_S1 (hN : nw_gnt tl hd c u s t) (hG : nw_G tl hd c u s t val x π) {b b' : nw_B} (hI : nw_BI tl hd c u x s π b) (hI' : nw_BI tl hd c u x s π b') (hle : ∀ p, b'.1 p ≤ b.1 p) {k : Nat} (hS : bf_S (nw_qb s) (nw_qa tl hd c u x π) 20 (nw_X π b.1) k) (hrel : ∀ q, nw_re u x q → b.1 (nw_fr tl hd q) < 1000000000 → (b'.1 (nw_to tl hd q) : Int) ≤ (b.1 (nw_fr tl hd q) : Int) + nw_cq c q) : bf_S (nw_qb s) (nw_qa tl hd c u x π) 20 (nw_X π b'.1) (k + 1) := by
  refine bf_S1 hS (fun p hp => nw_X_le hG hle hp) (fun p L hp h => ?_) (fun p w o hp h => ?_)
  · obtain ⟨rfl, rfl⟩ := h
    unfold nw_X
    rw [hI.1, hG.2.2.2.1]
    simp
  · obtain ⟨q, hq, rfl, rfl, hw⟩ := h
    obtain ⟨g1, g2, g3, g4⟩ := nw_re_pt hN hG.1 hq
    refine ⟨g1, ?_⟩
    have hpos := (hG.2.2.2.2 _ g2).1
    have hpo := (hG.2.2.2.2 _ g1).1
    have hb' := hI'.2.1 _ g2
    unfold nw_X
    by_cases c1 : b.1 (nw_fr tl hd q) < 1000000000
    · rw [if_pos c1]
      have h1 := hrel q hq c1
      have h2 := (hI.2.2.1 _ g1 c1).1
      by_cases c2 : b'.1 (nw_to tl hd q) < 1000000000
      · rw [if_pos c2]
        have h3 := (hI'.2.2.1 _ g2 c2).1
        omega
      · exfalso
        have h4 := nw_small hI g1 c1
        omega
    · rw [if_neg c1]
      split <;> omega
end NWF
