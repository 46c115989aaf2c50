/-! ===== one path more ===== -/
def nw_kl (π : Nat → Int) (b : nw_B) (g p : Nat) : Prop := (b.1 g : Int) - π g < (b.1 p : Int) - π p ∨ ((b.1 g : Int) - π g = (b.1 p : Int) - π p ∧ b.2.2.1 g < b.2.2.1 p)
noncomputable def nw_rk (π : Nat → Int) (b : nw_B) (p : Nat) : Nat := (List.range' 0 20).countP (fun g => @decide (nw_kl π b g p) (Classical.propDecidable _))
theorem nw_rk_lt {π : Nat → Int} {b : nw_B} {g p : Nat} (hg : g < 20) (h : nw_kl π b g p) : nw_rk π b g < nw_rk π b p := by
  unfold nw_rk
  refine bf_clt (y := g) (fun q _ hq => ?_) (by rw [nw_rgm]; omega) (@decide_eq_true _ (Classical.propDecidable _) h) (fun hq => ?_)
  · have h2 := @of_decide_eq_true _ (Classical.propDecidable _) hq
    refine @decide_eq_true _ (Classical.propDecidable _) ?_
    unfold nw_kl at *
    omega
  · have h2 := @of_decide_eq_true _ (Classical.propDecidable _) hq
    unfold nw_kl at h2
    omega
theorem nw_rk_19 {π : Nat → Int} {b : nw_B} {p : Nat} (hp : p < 20) : nw_rk π b p ≤ 19 := by
  have h1 : nw_rk π b p < (List.range' 0 20).countP (fun _ => true) := by
    refine bf_clt (y := p) (fun _ _ _ => rfl) (by rw [nw_rgm]; omega) rfl (fun hq => ?_)
    have h2 := @of_decide_eq_true _ (Classical.propDecidable _) hq
    unfold nw_kl at h2
    omega
  have h2 := List.countP_le_length (p := fun _ => true) (l := List.range' 0 20)
  rw [List.length_range'] at h2
  omega
def nw_tr (tl hd : Nat → Nat) (par : Nat → Nat × Bool) (s : Nat) : List (Nat × Bool) → Nat → Prop
  | [], p => p = s
  | q :: Q, p => p ≠ s ∧ par p = q ∧ nw_tr tl hd par s Q (nw_fr tl hd q)
def nw_x1 (x : Nat → Nat) (q : Nat × Bool) : Nat → Nat := nw_u1 x q.1 (if q.2 = true then x q.1 + 1 else x q.1 - 1)
def nw_xs (x : Nat → Nat) : List (Nat × Bool) → Nat → Nat
  | [] => x
  | q :: Q => nw_xs (nw_x1 x q) Q
def nw_fe2 (tl hd u : Nat → Nat) (s t : Nat) (val : Int) (y : Nat → Nat) : Prop := (∀ a, a < 34 → y a ≤ u a) ∧ fl_F 34 tl hd s t (fun a => (y a : Int)) val
def nw_co (c x : Nat → Nat) : Int := fl_S 34 (fun a => (c a : Int) * (x a : Int))
section NWG
variable {tl hd c u x : Nat → Nat} {s t : Nat} {π : Nat → Int} {val : Nat}
/-- every point that was reached is traced back -/
theorem nw_trace (hN : nw_gnt tl hd c u s t) (hx : ∀ a, a < 34 → x a ≤ u a) {b : nw_B} (hI : nw_BI tl hd c u x s π b) (hcl : nw_cld tl hd c u x b.1) : ∀ (n p : Nat), p < 20 → b.1 p < 1000000000 → nw_rk π b p ≤ n → ∃ Q, nw_tr tl hd b.2.1 s Q p ∧ Q.length ≤ nw_rk π b p ∧ Q.Pairwise (fun a b => a.1 ≠ b.1) ∧
    ∀ q ∈ Q, nw_re u x q ∧ nw_rk π b (tl q.1) ≤ nw_rk π b p ∧ nw_rk π b (hd q.1) ≤ nw_rk π b p ∧ b.1 (nw_fr tl hd q) < 1000000000 ∧ b.1 (nw_to tl hd q) < 1000000000 ∧ (b.1 (nw_to tl hd q) : Int) - π (nw_to tl hd q) ≤ (b.1 p : Int) - π p ∧ (b.1 (nw_fr tl hd q) : Int) - π (nw_fr tl hd q) ≤ (b.1 p : Int) - π p ∧ (b.1 (nw_to tl hd q) : Int) = (b.1 (nw_fr tl hd q) : Int) + nw_cq c q := by
  intro n
  induction n with
  | zero =>
    intro p hp hr hn
    by_cases hs : p = s
    · exact ⟨[], hs, Nat.zero_le _, List.Pairwise.nil, by simp⟩
    · obtain ⟨j1, j2, j3, j4, j5⟩ := hI.2.2.2.1 p hp hr hs
      obtain ⟨g1, g2, g3, g4⟩ := nw_re_pt hN hx j1
      have := nw_rk_lt g1 j5
      omega
  | succ n ih =>
    intro p hp hr hn
    by_cases hs : p = s
    · exact ⟨[], hs, Nat.zero_le _, List.Pairwise.nil, by simp⟩
    · obtain ⟨j1, j2, j3, j4, j5⟩ := hI.2.2.2.1 p hp hr hs
      obtain ⟨g1, g2, g3, g4⟩ := nw_re_pt hN hx j1
      have hlt := nw_rk_lt g1 j5
      have hcq := hcl _ j1 j3
      rw [j2] at hcq
      obtain ⟨Q, q1, q2, q3, q4⟩ := ih _ g1 j3 (by omega)
      have hle : (b.1 (nw_fr tl hd (b.2.1 p)) : Int) - π (nw_fr tl hd (b.2.1 p)) ≤ (b.1 p : Int) - π p := by
        rcases j5 with h | h <;> omega
      have hends : (tl (b.2.1 p).1 = p ∧ hd (b.2.1 p).1 = nw_fr tl hd (b.2.1 p)) ∨ (hd (b.2.1 p).1 = p ∧ tl (b.2.1 p).1 = nw_fr tl hd (b.2.1 p)) := by
        have := j2
        unfold nw_to at this
        unfold nw_fr
        by_cases e : (b.2.1 p).2 = true
        · rw [if_pos e] at this ⊢; exact Or.inr ⟨this, rfl⟩
        · rw [if_neg e] at this ⊢; exact Or.inl ⟨this, rfl⟩
      refine ⟨b.2.1 p :: Q, ⟨hs, rfl, q1⟩, by rw [List.length_cons]; omega, List.pairwise_cons.mpr ⟨fun q hq he => ?_, q3⟩, fun q hq => ?_⟩
      · obtain ⟨_, r1, r2, _⟩ := q4 q hq
        rw [← he] at r1 r2
        rcases hends with ⟨e1, e2⟩ | ⟨e1, e2⟩
        · rw [e1] at r1; omega
        · rw [e1] at r2; omega
      · rcases List.mem_cons.mp hq with rfl | hq
        · refine ⟨j1, ?_, ?_, j3, by rw [j2]; exact hr, by rw [j2]; exact Int.le_refl _, hle, by rw [j2]; omega⟩
          · rcases hends with ⟨e1, e2⟩ | ⟨e1, e2⟩
            · rw [e1]; exact Nat.le_refl _
            · rw [e2]; omega
          · rcases hends with ⟨e1, e2⟩ | ⟨e1, e2⟩
            · rw [e2]; omega
            · rw [e1]; exact Nat.le_refl _
        · obtain ⟨r0, r1, r2, r3, r4, r5, r6, r7⟩ := q4 q hq
          exact ⟨r0, by omega, by omega, r3, r4, by omega, by omega, r7⟩
theorem nw_x1n {q : Nat × Bool} {a : Nat} (h : a ≠ q.1) : nw_x1 x q a = x a := nw_u1n h
theorem nw_x1_up {q : Nat × Bool} (hq : nw_re u x q) : (fun a => (nw_x1 x q a : Int)) = fl_up (fun a => (x a : Int)) q.1 (if q.2 = true then 1 else -1) := by
  funext a
  unfold nw_x1 fl_up
  by_cases e : a = q.1
  · subst e
    rw [nw_u1s, if_pos rfl]
    dsimp only
    rcases hq.2 with ⟨h, _⟩ | ⟨h, h2⟩
    · rw [if_pos h, if_pos h]; omega
    · have h' : ¬ q.2 = true := by rw [h]; decide
      rw [if_neg h', if_neg h']; omega
  · rw [nw_u1n e, if_neg e]
def nw_y (π : Nat → Int) (b : nw_B) (K : Int) (p : Nat) : Int := if b.1 p < 1000000000 then (b.1 p : Int) - π p else K
theorem nw_Pnew (hN : nw_gnt tl hd c u s t) (hG : nw_G tl hd c u s t val x π) {b : nw_B} (hI : nw_BI tl hd c u x s π b) (hcl : nw_cld tl hd c u x b.1) (K : Int) : fl_P 34 tl hd (fun a => (c a : Int)) (fun a => (u a : Int)) (fun a => (x a : Int)) (fun v => π v + min (nw_y π b K v) K) := by
  have key : ∀ q, nw_re u x q → K ≤ nw_y π b K (nw_fr tl hd q) ∨ nw_y π b K (nw_to tl hd q) ≤ nw_y π b K (nw_fr tl hd q) + (nw_cq c q + π (nw_fr tl hd q) - π (nw_to tl hd q)) := fun q hq => by
    obtain ⟨g1, g2, g3, g4⟩ := nw_re_pt hN hG.1 hq
    unfold nw_y
    by_cases c1 : b.1 (nw_fr tl hd q) < 1000000000
    · have h1 := hcl q hq c1
      have h2 := nw_small hI g1 c1
      rw [if_pos c1, if_pos (by omega)]
      right
      omega
    · rw [if_neg c1]; left; exact Int.le_refl _
  refine fl_P_new hG.2.2.1 (fun a ha h => ?_) (fun a ha h => ?_)
  · have := key (a, true) ⟨ha, Or.inl ⟨rfl, by have h' : (x a : Int) < (u a : Int) := h; show x a < u a; omega⟩⟩
    exact this
  · have := key (a, false) ⟨ha, Or.inr ⟨rfl, by have h' : 0 < (x a : Int) := h; show 0 < x a; omega⟩⟩
    have h2 : K ≤ nw_y π b K (hd a) ∨ nw_y π b K (tl a) ≤ nw_y π b K (hd a) + (-(c a : Int) + π (hd a) - π (tl a)) := this
    rcases h2 with h2 | h2
    · exact Or.inl h2
    · right
      show _ ≤ nw_y π b K (hd a) - ((c a : Int) + π (tl a) - π (hd a))
      omega
/-- nothing greater, where the target isn't reached -/
theorem nw_nomore (hN : nw_gnt tl hd c u s t) (hG : nw_G tl hd c u s t val x π) {b : nw_B} (hI : nw_BI tl hd c u x s π b) (hcl : nw_cld tl hd c u x b.1) (ht : ¬ b.1 t < 1000000000) {y : Nat → Nat} {val' : Int} (hy : nw_fe2 tl hd u s t val' y) : val' ≤ (val : Int) := by
  by_cases hv : val' ≤ (val : Int)
  · exact hv
  · exfalso
    have hP := nw_Pnew hN hG hI hcl ((nw_co c y - nw_co c x).natAbs + 1 : Nat)
    have hd := fl_dual hG.2.1 hy.2 hP (fun a ha => ⟨by show 0 ≤ (y a : Int); omega, by have := hy.1 a ha; show (y a : Int) ≤ (u a : Int); omega⟩)
    have hs : b.1 s = 0 := hI.1
    have e1 : nw_y π b (((nw_co c y - nw_co c x).natAbs + 1 : Nat) : Int) t = (((nw_co c y - nw_co c x).natAbs + 1 : Nat) : Int) := if_neg ht
    have e2 : nw_y π b (((nw_co c y - nw_co c x).natAbs + 1 : Nat) : Int) s = 0 := by
      unfold nw_y
      rw [hs, if_pos (by omega), hG.2.2.2.1]; rfl
    have hpt := (hG.2.2.2.2 t hN.2.2.1).1
    have hd' : nw_co c x + (val' - (val : Int)) * ((π t + min (nw_y π b (((nw_co c y - nw_co c x).natAbs + 1 : Nat) : Int) t) (((nw_co c y - nw_co c x).natAbs + 1 : Nat) : Int)) - (π s + min (nw_y π b (((nw_co c y - nw_co c x).natAbs + 1 : Nat) : Int) s) (((nw_co c y - nw_co c x).natAbs + 1 : Nat) : Int))) ≤ nw_co c y := hd
    rw [e1, e2, hG.2.2.2.1] at hd'
    generalize hK : (((nw_co c y - nw_co c x).natAbs + 1 : Nat) : Int) = K at hd'
    have hK2 : nw_co c y - nw_co c x < K := by omega
    have hK3 : 0 < K := by omega
    have e3 : π t + min K K - (0 + min 0 K) = π t + K := by omega
    rw [e3] at hd'
    have hm : 1 * (π t + K) ≤ (val' - (val : Int)) * (π t + K) := Int.mul_le_mul_of_nonneg_right (by omega) (by omega)
    omega
/-- one path more, where it is reached -/
theorem nw_more (hN : nw_gnt tl hd c u s t) (hG : nw_G tl hd c u s t val x π) {b : nw_B} (hI : nw_BI tl hd c u x s π b) (hcl : nw_cld tl hd c u x b.1) (ht : b.1 t < 1000000000) : ∃ Q π', nw_tr tl hd b.2.1 s Q t ∧ Q.length ≤ 19 ∧ Q.Pairwise (fun a b => a.1 ≠ b.1) ∧ (∀ q ∈ Q, nw_re u x q) ∧ (∀ p, ∀ q, b.2.1 p = q → q ∈ Q → p < 20 → b.1 p < 1000000000 → p ≠ s → nw_to tl hd q = p) ∧ nw_G tl hd c u s t (val + 1) (nw_xs x Q) π' ∧ nw_co c (nw_xs x Q) = nw_co c x + (b.1 t : Int) := by
  obtain ⟨Q, q1, q2, q3, q4⟩ := nw_trace hN hG.1 hI hcl (nw_rk π b t) t hN.2.2.1 ht (Nat.le_refl _)
  have h19 := nw_rk_19 (π := π) (b := b) hN.2.2.1
  have hP := nw_Pnew hN hG hI hcl ((b.1 t : Int) - π t)
  have hpt := hG.2.2.2.2 t hN.2.2.1
  have hKpos : 0 ≤ (b.1 t : Int) - π t := by have := (hI.2.2.1 t hN.2.2.1 ht).1; omega
  have hfin : ∀ p, b.1 p < 1000000000 → (b.1 p : Int) - π p ≤ (b.1 t : Int) - π t → π p + min (nw_y π b ((b.1 t : Int) - π t) p) ((b.1 t : Int) - π t) = (b.1 p : Int) := fun p h1 h2 => by
    unfold nw_y; rw [if_pos h1]; omega
  have hs0 : π s + min (nw_y π b ((b.1 t : Int) - π t) s) ((b.1 t : Int) - π t) = 0 := by
    unfold nw_y; rw [hI.1, if_pos (by omega), hG.2.2.2.1]; omega
  have htt : π t + min (nw_y π b ((b.1 t : Int) - π t) t) ((b.1 t : Int) - π t) = (b.1 t : Int) := hfin t ht (Int.le_refl _)
  have hT : ∀ q ∈ Q, (c q.1 : Int) + (π (tl q.1) + min (nw_y π b ((b.1 t : Int) - π t) (tl q.1)) ((b.1 t : Int) - π t)) - (π (hd q.1) + min (nw_y π b ((b.1 t : Int) - π t) (hd q.1)) ((b.1 t : Int) - π t)) = 0 := fun q hq => by
    obtain ⟨r0, r1, r2, r3, r4, r5, r6, r7⟩ := q4 q hq
    have f1 := hfin _ r3 r6
    have f2 := hfin _ r4 r5
    unfold nw_cq at r7
    unfold nw_fr nw_to at *
    by_cases e : q.2 = true
    · simp only [if_pos e] at *; omega
    · simp only [if_neg e] at *; omega
  have htr : ∀ (Q' : List (Nat × Bool)) (p : Nat), nw_tr tl hd b.2.1 s Q' p → p < 20 → b.1 p < 1000000000 → (∀ q ∈ Q', nw_re u x q ∧ b.1 (nw_fr tl hd q) < 1000000000) → ∀ (x' : Nat → Nat), Q'.Pairwise (fun a b => a.1 ≠ b.1) → (∀ q ∈ Q', nw_re u x' q ∧ (c q.1 : Int) + (π (tl q.1) + min (nw_y π b ((b.1 t : Int) - π t) (tl q.1)) ((b.1 t : Int) - π t)) - (π (hd q.1) + min (nw_y π b ((b.1 t : Int) - π t) (hd q.1)) ((b.1 t : Int) - π t)) = 0) → fl_A 34 tl hd (fun a => (u a : Int)) (fun a => (c a : Int) + (π (tl a) + min (nw_y π b ((b.1 t : Int) - π t) (tl a)) ((b.1 t : Int) - π t)) - (π (hd a) + min (nw_y π b ((b.1 t : Int) - π t) (hd a)) ((b.1 t : Int) - π t)) = 0) s Q'.length p (fun a => (x' a : Int)) (fun a => (nw_xs x' Q' a : Int)) := by
    intro Q'
    induction Q' with
    | nil => intro p h _ _ _ x' _ _; exact ⟨h, rfl⟩
    | cons q Q' ih =>
      rintro p ⟨h1, h2, h3⟩ hp hr hq x' hpw hqx
      rw [List.pairwise_cons] at hpw
      obtain ⟨r1, r2⟩ := hqx q List.mem_cons_self
      obtain ⟨w1, w2⟩ := hq q List.mem_cons_self
      obtain ⟨j1, j2, -⟩ := hI.2.2.2.1 p hp hr h1
      rw [h2] at j1 j2
      obtain ⟨g1, -⟩ := nw_re_pt hN hG.1 w1
      have hrec := ih (nw_fr tl hd q) h3 g1 w2 (fun q' hq' => hq q' (List.mem_cons_of_mem _ hq')) (nw_x1 x' q) hpw.2 (fun q' hq' => by
        obtain ⟨v1, v2⟩ := hqx q' (List.mem_cons_of_mem _ hq')
        refine ⟨⟨v1.1, ?_⟩, v2⟩
        rw [nw_x1n (fun e => hpw.1 q' hq' e.symm)]
        exact v1.2)
      rw [nw_x1_up r1] at hrec
      rcases r1.2 with ⟨e, h⟩ | ⟨e, h⟩
      · left
        unfold nw_to at j2
        unfold nw_fr at hrec
        rw [if_pos e] at j2
        simp only [if_pos e] at hrec
        exact ⟨q.1, r1.1, r2, j2, by show (x' q.1 : Int) < (u q.1 : Int); omega, hrec⟩
      · right
        have e' : ¬ q.2 = true := by rw [e]; decide
        unfold nw_to at j2
        unfold nw_fr at hrec
        rw [if_neg e'] at j2
        simp only [if_neg e'] at hrec
        exact ⟨q.1, r1.1, r2, j2, by show 0 < (x' q.1 : Int); omega, hrec⟩
  have hA := htr Q t q1 hN.2.2.1 ht (fun q hq => ⟨(q4 q hq).1, (q4 q hq).2.2.2.1⟩) x q3 (fun q hq => ⟨(q4 q hq).1, hT q hq⟩)
  refine ⟨Q, fun v => π v + min (nw_y π b ((b.1 t : Int) - π t) v) ((b.1 t : Int) - π t), q1, by omega, q3, fun q hq => (q4 q hq).1, fun p q e hq hp hr hs => ?_, ⟨fun a ha => ?_, ?_, ?_, hs0, fun p hp => ?_⟩, ?_⟩
  · have := (hI.2.2.2.1 p hp hr hs).2.1
    rw [e] at this; exact this
  · have := fl_A_caps _ _ _ hA (fun a ha => ⟨by show 0 ≤ (x a : Int); omega, by have := hG.1 a ha; show (x a : Int) ≤ (u a : Int); omega⟩) a ha
    have h2 : (nw_xs x Q a : Int) ≤ (u a : Int) := this.2
    omega
  · have := fl_A_F hA hG.2.1
    exact this
  · exact fl_A_P (fun a h => h) _ _ _ hA hP
  · have h1 := hG.2.2.2.2 p hp
    show 0 ≤ π p + min _ _ ∧ π p + min _ _ ≤ π t + min _ _
    rw [htt]
    have h2 : 0 ≤ nw_y π b ((b.1 t : Int) - π t) p := by
      unfold nw_y
      by_cases e : b.1 p < 1000000000
      · rw [if_pos e]; have := (hI.2.2.1 p hp e).1; omega
      · rw [if_neg e]; exact hKpos
    omega
  · have := fl_A_cost (π := fun v => π v + min (nw_y π b ((b.1 t : Int) - π t) v) ((b.1 t : Int) - π t)) (c := fun a => (c a : Int)) (fun a h => h) _ _ _ hA
    rw [htt, hs0] at this
    unfold nw_co
    rw [fl_S_congr (g := fun a => (nw_xs x Q a : Int) * (c a : Int)) (fun a _ => Int.mul_comm _ _), this, fl_S_congr (f := fun a => (x a : Int) * (c a : Int)) (g := fun a => (c a : Int) * (x a : Int)) (fun a _ => Int.mul_comm _ _)]
    omega
end NWG
