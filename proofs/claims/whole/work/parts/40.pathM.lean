/-! ===== the reference's paths ===== -/
theorem nw_sl_app {N : nw_N} (p q : List Nat) : nw_sl N (p ++ q) = nw_sl N p + nw_sl N q := by
  induction p with
  | nil => rw [List.nil_append, show nw_sl N [] = 0 from rfl, Nat.zero_add]
  | cons a p ih => rw [List.cons_append]; show nw_l N a + nw_sl N (p ++ q) = nw_l N a + nw_sl N p + nw_sl N q; rw [ih, Nat.add_assoc]
theorem nw_lx_app (pre p q : List Nat) : nw_lx (pre ++ p) (pre ++ q) ↔ nw_lx p q := by
  induction pre with
  | nil => exact Iff.rfl
  | cons a pre ih =>
    rw [List.cons_append, List.cons_append]
    show (a < a ∨ (a = a ∧ nw_lx (pre ++ p) (pre ++ q))) ↔ _
    rw [ih]
    exact ⟨fun h => by rcases h with h | h; exact absurd h (Nat.lt_irrefl _); exact h.2, fun h => Or.inr ⟨rfl, h⟩⟩
/-- a row holds a list -/
def nw_rw (f : Nat → Int32) (l : List Nat) : Prop := ∀ i x, l[i]? = some x → f i = nI x
theorem nw_rw_app {f : Nat → Int32} {p q : List Nat} : nw_rw f (p ++ q) ↔ nw_rw f p ∧ ∀ i x, q[i]? = some x → f (p.length + i) = nI x := by
  constructor
  · intro h
    refine ⟨fun i x hx => h i x ?_, fun i x hx => h _ x ?_⟩
    · rw [List.getElem?_append_left (List.getElem?_eq_some_iff.mp hx).1, hx]
    · rw [List.getElem?_append_right (by omega), show p.length + i - p.length = i by omega, hx]
  · rintro ⟨h1, h2⟩ i x hx
    by_cases e : i < p.length
    · rw [List.getElem?_append_left e] at hx; exact h1 i x hx
    · rw [List.getElem?_append_right (by omega)] at hx
      have := h2 _ x hx
      rwa [show p.length + (i - p.length) = i by omega] at this
theorem nw_beh_lp {σ : jv_S} : ∀ (p q pre : List Nat) (fuel : Nat), p.length < fuel → nw_rw (σ.1 43) (pre ++ p) → nw_rw (σ.1 42) (pre ++ q) → σ.1 35 13 = nI (pre ++ q).length → (pre ++ p).length ≤ 9 → (pre ++ q).length ≤ 9 → (∀ e ∈ pre ++ p, e < 24) → (∀ e ∈ pre ++ q, e < 24) →
    ∃ i, f_X8_isBehind_lp2 (nI (pre ++ p).length) fuel (nI pre.length) σ = some (nI i) ∧ i ≤ (pre ++ p).length ∧ ((i < (pre ++ p).length ∧ i < (pre ++ q).length ∧ ∃ a b, (pre ++ p)[i]? = some a ∧ (pre ++ q)[i]? = some b ∧ b < a) ↔ nw_lx q p) := by
  intro p
  induction p with
  | nil =>
    intro q pre fuel hf h43 h42 h13 hl1 hl2 hb1 hb2
    obtain ⟨f, rfl⟩ := nw_f0 hf
    refine ⟨pre.length, ?_, by simp, ?_⟩
    · rw [f_X8_isBehind_lp2, List.append_nil, if_pos (nI_le (Nat.le_refl _) (by simp at hl1; omega))]
    · rw [List.append_nil]
      constructor
      · rintro ⟨h, -⟩; exact absurd h (Nat.lt_irrefl _)
      · intro h; cases q <;> simp [nw_lx] at h
  | cons a p ih =>
    intro q pre fuel hf h43 h42 h13 hl1 hl2 hb1 hb2
    obtain ⟨f, rfl, hg⟩ := nw_fe (by simpa using hf)
    have hl1' := hl1
    have hl2' := hl2
    simp only [List.length_append, List.length_cons] at hl1' hl2'
    have e1 : (pre ++ a :: p)[pre.length]? = some a := by simp
    have ha := hb1 a (by simp)
    rw [f_X8_isBehind_lp2, if_neg (nI_ge (by simp) (by omega)), h13]
    cases q with
    | nil =>
      refine ⟨pre.length, ?_, by simp, ?_⟩
      · rw [List.append_nil, if_pos (nI_le (Nat.le_refl _) (by omega))]
      · rw [List.append_nil]
        constructor
        · rintro ⟨_, h, -⟩; exact absurd h (Nat.lt_irrefl _)
        · intro h; simp [nw_lx] at h
    | cons b q =>
      have e2 : (pre ++ b :: q)[pre.length]? = some b := by simp
      have hb := hb2 b (by simp)
      simp only [List.length_cons] at hl2'
      rw [if_neg (nI_ge (by simp) (by omega)), nw_ck (by omega) (by omega), nI_clamp (by omega), h43 _ a e1, h42 _ b e2]
      simp only [if_true]
      by_cases c : a = b
      · subst c
        rw [if_pos rfl, nI_1]
        have e3 : pre ++ a :: p = (pre ++ [a]) ++ p := by simp
        have e4 : pre ++ a :: q = (pre ++ [a]) ++ q := by simp
        rw [e3] at h43 hl1 hb1 ⊢
        rw [e4] at h42 h13 hl2 hb2 ⊢
        obtain ⟨i, g1, g2, g3⟩ := ih q (pre ++ [a]) f hg h43 h42 h13 hl1 hl2 hb1 hb2
        refine ⟨i, ?_, g2, g3.trans ?_⟩
        · rw [← g1, List.length_append, List.length_append, List.length_singleton]
        · exact ⟨fun h => Or.inr ⟨rfl, h⟩, fun h => by rcases h with h | h; exact absurd h (Nat.lt_irrefl _); exact h.2⟩
      · rw [if_neg (fun h => c ((nI_eq (by omega) (by omega)).mp h))]
        refine ⟨pre.length, rfl, by simp, ?_⟩
        constructor
        · rintro ⟨_, _, a', b', h1, h2, h3⟩
          rw [e1] at h1; rw [e2] at h2
          cases h1; cases h2
          exact Or.inl h3
        · rintro (h | ⟨h, _⟩)
          · exact ⟨by simp, by simp, a, b, e1, e2, h⟩
          · exact absurd h.symm c
theorem nw_beh {σ : jv_S} {p q : List Nat} (h43 : nw_rw (σ.1 43) p) (h42 : nw_rw (σ.1 42) q) (h13 : σ.1 35 13 = nI q.length) (hl1 : p.length ≤ 9) (hl2 : q.length ≤ 9) (hb1 : ∀ e ∈ p, e < 24) (hb2 : ∀ e ∈ q, e < 24) : ∃ b, f_X8_isBehind σ (nI p.length) = some b ∧ (b = true ↔ nw_lx q p) := by
  obtain ⟨i, g1, g2, g3⟩ := nw_beh_lp p q [] jv_fuel (nw_fu (by omega)) h43 h42 h13 hl1 hl2 hb1 hb2
  have g1' : f_X8_isBehind_lp2 (nI p.length) jv_fuel (0 : Int32) σ = some (nI i) := g1
  simp only [List.nil_append] at g2 g3
  unfold f_X8_isBehind
  rw [g1', nw_bd, h13]
  by_cases c1 : i < p.length
  · rw [if_neg (nI_ge c1 (by omega))]
    by_cases c2 : i < q.length
    · have e1 : p[i]? = some p[i] := List.getElem?_eq_getElem c1
      have e2 : q[i]? = some q[i] := List.getElem?_eq_getElem c2
      have b1 := hb1 _ (List.mem_of_getElem? e1)
      have b2 := hb2 _ (List.mem_of_getElem? e2)
      rw [if_neg (nI_ge c2 (by omega)), nw_ck (by omega) (by omega), nI_clamp (by omega), h43 i _ e1, h42 i _ e2]
      simp only [if_true]
      by_cases c3 : p[i] ≤ q[i]
      · rw [if_pos (nI_le c3 (by omega)), nw_bd]
        refine ⟨false, rfl, fun h => (by cases h), fun h => ?_⟩
        obtain ⟨_, _, a, b, h1, h2, h3⟩ := g3.mpr h
        rw [e1] at h1; rw [e2] at h2
        cases h1; cases h2
        omega
      · rw [if_neg (nI_ge (by omega) (by omega)), nw_bd]
        exact ⟨true, rfl, fun _ => g3.mp ⟨c1, c2, _, _, e1, e2, by omega⟩, fun _ => rfl⟩
    · rw [if_pos (nI_le (by omega) (by omega)), nw_bd]
      exact ⟨false, rfl, fun h => (by cases h), fun h => absurd (g3.mpr h).2.1 c2⟩
  · rw [if_pos (nI_le (by omega) (by omega)), nw_bd]
    exact ⟨false, rfl, fun h => (by cases h), fun h => absurd (g3.mpr h).1 c1⟩
/-- the reference's last path -/
def nw_RP (N : nw_N) (l : List (List Nat)) (cur drawn : Nat) (path : List Nat) (σ : jv_S) : Prop := σ.1 35 12 = nI drawn ∧ drawn < 1000 ∧ σ.1 35 13 = nI path.length ∧ (0 < drawn → σ.1 35 14 = nI (nw_sl N path) ∧ nw_rw (σ.1 42) path ∧ path ∈ l ∧ cur = nw_key N path) ∧ (drawn = 0 → path = [] ∧ cur = 0)
/-- its best one so far -/
def nw_RB (N : nw_N) (l : List (List Nat)) (best : Option (List Nat)) (σ : jv_S) : Prop := match best with
  | none => σ.1 35 21 = nI 0
  | some b => b ∈ l ∧ σ.1 35 21 = nI b.length ∧ σ.1 35 22 = nI (nw_sl N b) ∧ nw_rw (σ.1 47) b
def nw_pB (k j : Nat) : Bool := (k == 35 && (j == 21 || j == 22)) || k == 47
def nw_pG (k j : Nat) : Bool := (k == 35 && (j == 21 || j == 22)) || (k == 43 || k == 44 || k == 45 || k == 46 || k == 47)
theorem nw_RP.keep {N : nw_N} {l : List (List Nat)} {cur drawn : Nat} {path : List Nat} {σ τ : jv_S} (h : nw_RP N l cur drawn path σ) (h35 : ∀ j, j = 12 ∨ j = 13 ∨ j = 14 → τ.1 35 j = σ.1 35 j) (h42 : τ.1 42 = σ.1 42) : nw_RP N l cur drawn path τ := by
  unfold nw_RP at *
  rw [h35 12 (by omega), h35 13 (by omega), h35 14 (by omega), h42]
  exact h
theorem nw_cp69 {σ0 : jv_S} {p : List Nat} (hl : p.length ≤ 9) : ∀ (k i fuel : Nat) (σ : jv_S), i + k = p.length → k < fuel → nw_rw (σ.1 43) p → (∀ j x, j < i → p[j]? = some x → σ.1 47 j = nI x) →
    ∃ τ z, f_X8_meets_lp69 (nI p.length) fuel (nI i) σ = some (z, τ) ∧ nw_f (nw_r 47) σ τ ∧ nw_rw (τ.1 47) p := by
  intro k
  induction k with
  | zero =>
    intro i fuel σ hi hf h43 h47
    obtain ⟨f, rfl⟩ := nw_f0 hf
    refine ⟨σ, nI i, by rw [f_X8_meets_lp69, if_pos (nI_le (by omega) (by omega))], nw_f.rfl, fun j x hx => h47 j x ?_ hx⟩
    have := (List.getElem?_eq_some_iff.mp hx).1
    omega
  | succ k ih =>
    intro i fuel σ hi hf h43 h47
    obtain ⟨f, rfl, hg⟩ := nw_fe hf
    rw [f_X8_meets_lp69, if_neg (nI_ge (by omega) (by omega)), nw_ck (by omega) (by omega), nI_clamp (by omega), nI_1]
    simp only [if_true]
    obtain ⟨τ, z, g1, g2, g3⟩ := ih (i + 1) f (jv_si σ 47 i (σ.1 43 i)) (by omega) hg (by rw [nw_gn (by decide)]; exact h43) (fun j x hj hx => by
      by_cases e : j = i
      · subst e; rw [nw_gs, h43 j x hx]
      · rw [nw_gj e]; exact h47 j x (by omega) hx)
    exact ⟨τ, z, g1, (nw_f.rfl.si nw_r_t).trans g2, g3⟩
theorem nw_keyp {N : nw_N} {p : List Nat} (h : 0 < p.length) : 0 < nw_key N p := by
  cases p with
  | nil => simp at h
  | cons e p =>
    have h1 : nw_dg 9 (e :: p) = (e + 1) * 32 ^ 8 + nw_dg 8 p := rfl
    have h2 : 1 * 32 ^ 8 ≤ (e + 1) * 32 ^ 8 := Nat.mul_le_mul_right _ (by omega)
    have h3 : 0 < 32 ^ 8 := by decide
    unfold nw_key
    omega
theorem nw_slb {N : nw_N} (hW : nw_W N) : ∀ p : List Nat, (∀ e ∈ p, e < nw_m N) → nw_sl N p ≤ 1000 * p.length := by
  intro p
  induction p with
  | nil => intro _; exact Nat.zero_le _
  | cons e p ih =>
    intro h
    have h1 := ih (fun x hx => h x (List.mem_cons_of_mem _ hx))
    have h2 := hW.e (h e List.mem_cons_self)
    show nw_l N e + nw_sl N p ≤ _
    rw [List.length_cons]
    omega
def nw_gm (N : nw_N) (l : List (List Nat)) : Prop := nw_gp l ∧ ∀ p ∈ l, ∀ e ∈ p, e < nw_m N
set_option maxRecDepth 4000 in
theorem nw_meets {N : nw_N} (hW : nw_W N) {l : List (List Nat)} (hl : nw_gm N l) {σ : jv_S} {p path : List Nat} {best : Option (List Nat)} {cur drawn : Nat} (hp : p ∈ l) (h43 : nw_rw (σ.1 43) p) (hP : nw_RP N l cur drawn path σ) (hB : nw_RB N l best σ) :
    ∃ τ, f_X8_meets σ (nI p.length) (nI (nw_sl N p)) = some τ ∧ nw_f nw_pB σ τ ∧ nw_RB N l (nw_mb N cur best p) τ := by
  obtain ⟨p1, p2, p3⟩ := hl.1.2 p hp
  have psl := nw_slb hW p (hl.2 p hp)
  obtain ⟨r1, r2, r3, r4, r5⟩ := hP
  have hnext : ∃ b, (if (σ.1 35 12) = 0 then (some true) else (if (σ.1 35 14) < (nI (nw_sl N p)) then (some true) else (if (nI (nw_sl N p)) = (σ.1 35 14) then (jv_bd (f_X8_isBehind σ (nI p.length)) (fun q5 => if q5 = true then (some true) else (some false))) else (some false)))) = some b ∧ (b = true ↔ cur < nw_key N p) := by
    rw [r1]
    by_cases c0 : drawn = 0
    · subst c0
      rw [if_pos (show nI 0 = 0 from rfl)]
      obtain ⟨-, rfl⟩ := r5 rfl
      exact ⟨true, rfl, fun _ => nw_keyp p2, fun _ => rfl⟩
    · obtain ⟨s1, s2, s3, rfl⟩ := r4 (by omega)
      obtain ⟨q1, q2, q3⟩ := hl.1.2 path s3
      have qsl := nw_slb hW path (hl.2 path s3)
      have hk := nw_key_iff (N := N) hl.1 s3 hp
      rw [if_neg (nI_ne0 (by omega) (by omega)), s1]
      by_cases c1 : nw_sl N path < nw_sl N p
      · rw [if_pos (nI_lt c1 (by omega))]
        exact ⟨true, rfl, fun _ => hk.mpr (Or.inl c1), fun _ => rfl⟩
      · rw [if_neg (nI_nlt (by omega) (by omega))]
        by_cases c2 : nw_sl N p = nw_sl N path
        · rw [if_pos (by rw [c2])]
          obtain ⟨b, g1, g2⟩ := nw_beh h43 s2 r3 p1 q1 p3 q3
          rw [g1, nw_bd]
          refine ⟨b, by cases b <;> rfl, ?_⟩
          rw [g2, hk]
          exact ⟨fun h => Or.inr ⟨c2, h⟩, fun h => by rcases h with h | h; exact absurd h c1; exact h.2⟩
        · rw [if_neg (fun h => c2 ((nI_eq (by omega) (by omega)).mp h))]
          refine ⟨false, rfl, fun h => (by cases h), fun h => ?_⟩
          rcases hk.mp h with h | h
          · exact absurd h c1
          · exact absurd h.1 c2
  obtain ⟨b, hb1, hb2⟩ := hnext
  unfold f_X8_meets
  rw [hb1, nw_bd]
  have hcp : ∃ τ, jv_bd (f_X8_meets_lp69 (nI p.length) jv_fuel (0 : Int32) (jv_si (jv_si σ 35 21 (nI p.length)) 35 22 (nI (nw_sl N p)))) (fun q10 => some q10.2) = some τ ∧ nw_f nw_pB σ τ ∧ nw_RB N l (some p) τ := by
    obtain ⟨τ, z, g1, g2, g3⟩ := nw_cp69 (σ0 := σ) p1 p.length 0 jv_fuel (jv_si (jv_si σ 35 21 (nI p.length)) 35 22 (nI (nw_sl N p))) (by omega) (nw_fu (by omega)) (by rw [nw_gn (by decide), nw_gn (by decide)]; exact h43) (fun j x hj => by omega)
    have g1' : f_X8_meets_lp69 (nI p.length) jv_fuel (0 : Int32) (jv_si (jv_si σ 35 21 (nI p.length)) 35 22 (nI (nw_sl N p))) = some (z, τ) := g1
    refine ⟨τ, by rw [g1', nw_bd], ((nw_f.rfl.si (by rfl)).si (by rfl)).trans (g2.mono (fun a b h => ?_)), hp, ?_, ?_, g3⟩
    · simp only [nw_pB, Bool.or_eq_false_iff] at h
      exact h.2
    · rw [g2.row (by decide), nw_gj (by decide), nw_gs]
    · rw [g2.row (by decide), nw_gs]
  cases b with
  | false =>
    have hc : ¬ cur < nw_key N p := fun h => by have := hb2.mpr h; cases this
    refine ⟨σ, by simp [nw_bd], nw_f.rfl, ?_⟩
    cases best with
    | none => simp only [nw_mb]; rw [if_neg hc]; exact hB
    | some b => simp only [nw_mb]; rw [if_neg (fun h => hc h.1)]; exact hB
  | true =>
    have hc : cur < nw_key N p := hb2.mp rfl
    rw [if_pos rfl]
    obtain ⟨τ, g1, g2, g3⟩ := hcp
    cases best with
    | none =>
      have hB' : σ.1 35 21 = nI 0 := hB
      rw [hB', if_pos (show nI 0 = 0 from rfl), g1, nw_bd]
      refine ⟨τ, rfl, g2, ?_⟩
      simp only [nw_mb]
      rw [if_pos hc]
      exact g3
    | some b =>
      obtain ⟨b1, b2, b3, b4⟩ := id hB
      obtain ⟨q1, q2, q3⟩ := hl.1.2 b b1
      have bsl := nw_slb hW b (hl.2 b b1)
      rw [b2, if_neg (nI_ne0 q2 (by omega)), b3]
      by_cases c1 : nw_sl N b ≤ nw_sl N p
      · rw [if_pos (nI_le c1 (by omega)), nw_bd]
        refine ⟨σ, rfl, nw_f.rfl, ?_⟩
        simp only [nw_mb]
        rw [if_neg (fun h => by omega)]
        exact hB
      · rw [if_neg (nI_ge (by omega) (by omega)), g1, nw_bd]
        refine ⟨τ, rfl, g2, ?_⟩
        simp only [nw_mb]
        rw [if_pos ⟨hc, by omega⟩]
        exact g3
