/-! ===== paths in the order of their edges ===== -/
def nw_sl (N : nw_N) : List Nat → Nat
  | [] => 0
  | e :: p => nw_l N e + nw_sl N p
/-- what begins with an edge, beyond the nodes of V, ahead of to -/
def nw_pp (N : nw_N) (to : Nat) : Nat → (Nat → Bool) → Nat → List (List Nat)
  | 0, _, _ => []
  | f + 1, V, v => (nw_oe N v).flatMap (fun e => if nw_e N e = to then [[e]] else if V (nw_e N e) = true then [] else (nw_pp N to f (fun w => V w || w == nw_e N e) (nw_e N e)).map (fun p => e :: p))
def nw_br (N : nw_N) (to f : Nat) (V : Nat → Bool) (e : Nat) : List (List Nat) := if nw_e N e = to then [[e]] else if V (nw_e N e) = true then [] else (nw_pp N to f (fun w => V w || w == nw_e N e) (nw_e N e)).map (fun p => e :: p)
theorem nw_pp_s {N : nw_N} {to f v : Nat} {V : Nat → Bool} : nw_pp N to (f + 1) V v = (nw_oe N v).flatMap (nw_br N to f V) := rfl
def nw_cv (to : Nat) (V : Nat → Bool) : Nat := (List.range' 0 10).countP (fun w => !V w && !(w == to))
theorem nw_cv_lt {to u : Nat} {V : Nat → Bool} (hu : u < 10) (h1 : V u = false) (h2 : u ≠ to) : nw_cv to (fun w => V w || w == u) < nw_cv to V := by
  unfold nw_cv
  refine bf_clt (y := u) (fun x _ hx => ?_) (by rw [nw_rgm]; omega) (by simp [h1, h2]) (by simp)
  simp only [Bool.and_eq_true, Bool.not_eq_true', Bool.or_eq_false_iff] at hx ⊢
  exact ⟨hx.1.1, hx.2⟩
/-- lexicographic order, told at the first difference -/
def nw_lx : List Nat → List Nat → Prop
  | a :: p, b :: q => a < b ∨ (a = b ∧ nw_lx p q)
  | _, _ => False
def nw_dg : Nat → List Nat → Nat
  | 0, _ => 0
  | _ + 1, [] => 0
  | k + 1, e :: p => (e + 1) * 32 ^ k + nw_dg k p
def nw_key (N : nw_N) (p : List Nat) : Nat := nw_sl N p * 2 ^ 45 + nw_dg 9 p
theorem nw_dg_lt : ∀ (k : Nat) (p : List Nat), (∀ e ∈ p, e < 24) → nw_dg k p < 32 ^ k := by
  intro k
  induction k with
  | zero => intro p _; exact Nat.one_pos
  | succ k ih =>
    intro p hp
    cases p with
    | nil => exact Nat.pow_pos (by omega)
    | cons e p =>
      have h1 := ih p (fun x hx => hp x (List.mem_cons_of_mem _ hx))
      have h2 := hp e List.mem_cons_self
      show (e + 1) * 32 ^ k + nw_dg k p < 32 ^ (k + 1)
      have h3 : (e + 1) * 32 ^ k ≤ 24 * 32 ^ k := Nat.mul_le_mul_right _ (by omega)
      rw [Nat.pow_succ]
      omega
theorem nw_lx_dg : ∀ (k : Nat) (p q : List Nat), nw_lx p q → p.length ≤ k → (∀ e ∈ p, e < 24) → nw_dg k p < nw_dg k q := by
  intro k
  induction k with
  | zero =>
    intro p q h hl
    cases p with
    | nil => simp [nw_lx] at h
    | cons a p => simp at hl
  | succ k ih =>
    intro p q h hl hp
    cases p with
    | nil => simp [nw_lx] at h
    | cons a p =>
      cases q with
      | nil => simp [nw_lx] at h
      | cons b q =>
        have hp' : ∀ e ∈ p, e < 24 := fun x hx => hp x (List.mem_cons_of_mem _ hx)
        show (a + 1) * 32 ^ k + nw_dg k p < (b + 1) * 32 ^ k + nw_dg k q
        rcases h with h | ⟨rfl, h⟩
        · have h1 := nw_dg_lt k p hp'
          have h3 : (a + 1 + 1) * 32 ^ k ≤ (b + 1) * 32 ^ k := Nat.mul_le_mul_right _ (by omega)
          rw [Nat.add_mul (a + 1)] at h3
          omega
        · have := ih p q h (by simpa using hl) hp'
          omega
/-- the facts of a path -/
theorem nw_pp_ok {N : nw_N} {to : Nat} (hW : nw_W N) : ∀ (f : Nat) (V : Nat → Bool) (v : Nat) (p : List Nat), p ∈ nw_pp N to f V v → p.length ≤ f ∧ 0 < p.length ∧ (∀ e ∈ p, e < nw_m N) ∧ nw_sl N p ≤ 1000 * p.length ∧ ∃ h, bf_R (nw_ba to) (nw_arc N) v h (nw_sl N p) := by
  intro f
  induction f with
  | zero => intro V v p hp; simp [nw_pp] at hp
  | succ f ih =>
    intro V v p hp
    rw [nw_pp_s, List.mem_flatMap] at hp
    obtain ⟨e, he, hp⟩ := hp
    obtain ⟨hem, rfl, heu⟩ := nw_oe_mem.mp he
    have hb := hW.e hem
    unfold nw_br at hp
    by_cases c1 : nw_e N e = to
    · rw [if_pos c1] at hp
      have hp := List.mem_singleton.mp hp
      subst hp
      refine ⟨by simp, by simp, by simpa using hem, by simp [nw_sl]; omega, 1, ?_⟩
      exact bf_R.step ⟨e, hem, heu, rfl, rfl, rfl⟩ (bf_R.base ⟨c1, rfl⟩)
    · rw [if_neg c1] at hp
      by_cases c2 : V (nw_e N e) = true
      · rw [if_pos c2] at hp; simp at hp
      · rw [if_neg c2, List.mem_map] at hp
        obtain ⟨q, hq, rfl⟩ := hp
        obtain ⟨h1, h2, h3, h4, h, hR⟩ := ih _ _ q hq
        refine ⟨by simpa using h1, by simp, ?_, ?_, h + 1, ?_⟩
        · intro x hx
          rcases List.mem_cons.mp hx with rfl | hx
          · exact hem
          · exact h3 x hx
        · show nw_l N e + nw_sl N q ≤ _
          rw [List.length_cons]
          omega
        · exact bf_R.step ⟨e, hem, heu, rfl, rfl, rfl⟩ hR
theorem nw_oe_lt {N : nw_N} {v : Nat} : (nw_oe N v).Pairwise (fun a b => a < b) := by
  unfold nw_oe
  exact List.Pairwise.filter _ List.pairwise_lt_range'
theorem nw_br_h {N : nw_N} {to f e : Nat} {V : Nat → Bool} {p : List Nat} (h : p ∈ nw_br N to f V e) : ∃ q, p = e :: q := by
  unfold nw_br at h
  split at h
  · exact ⟨[], List.mem_singleton.mp h⟩
  · split at h
    · simp at h
    · obtain ⟨q, _, rfl⟩ := List.mem_map.mp h
      exact ⟨q, rfl⟩
theorem nw_pp_lx {N : nw_N} {to : Nat} : ∀ (f : Nat) (V : Nat → Bool) (v : Nat), (nw_pp N to f V v).Pairwise nw_lx := by
  intro f
  induction f with
  | zero => intro V v; exact List.Pairwise.nil
  | succ f ih =>
    intro V v
    rw [nw_pp_s, List.pairwise_flatMap]
    refine ⟨fun e he => ?_, List.Pairwise.imp (fun {a b} hab x hx y hy => ?_) nw_oe_lt⟩
    · unfold nw_br
      split
      · exact List.pairwise_singleton _ _
      · split
        · exact List.Pairwise.nil
        · rw [List.pairwise_map]
          exact List.Pairwise.imp (fun {a b} hab => Or.inr ⟨rfl, hab⟩) (ih _ _)
    · obtain ⟨p, rfl⟩ := nw_br_h hx
      obtain ⟨q, rfl⟩ := nw_br_h hy
      exact Or.inl hab
theorem nw_pw_tri {α : Type} {R : α → α → Prop} {l : List α} (h : l.Pairwise R) {a b : α} (ha : a ∈ l) (hb : b ∈ l) : a = b ∨ R a b ∨ R b a := by
  obtain ⟨i, hi⟩ := List.mem_iff_getElem?.mp ha
  obtain ⟨j, hj⟩ := List.mem_iff_getElem?.mp hb
  obtain ⟨hi1, hi2⟩ := List.getElem?_eq_some_iff.mp hi
  obtain ⟨hj1, hj2⟩ := List.getElem?_eq_some_iff.mp hj
  have hp := List.pairwise_iff_getElem.mp h
  rcases Nat.lt_trichotomy i j with e | e | e
  · exact Or.inr (Or.inl (by rw [← hi2, ← hj2]; exact hp i j hi1 hj1 e))
  · subst e; rw [hi] at hj; cases hj; exact Or.inl rfl
  · exact Or.inr (Or.inr (by rw [← hi2, ← hj2]; exact hp j i hj1 hi1 e))
/-- a good list of paths: in order, short, of few edges -/
def nw_gp (l : List (List Nat)) : Prop := l.Pairwise nw_lx ∧ ∀ p ∈ l, p.length ≤ 9 ∧ 0 < p.length ∧ ∀ e ∈ p, e < 24
theorem nw_key_lx {N : nw_N} {p q : List Nat} (h : nw_lx p q) (hs : nw_sl N p ≤ nw_sl N q) (hp : p.length ≤ 9) (hp2 : ∀ e ∈ p, e < 24) : nw_key N p < nw_key N q := by
  have h1 := nw_lx_dg 9 p q h hp hp2
  unfold nw_key
  have : nw_sl N p * 2 ^ 45 ≤ nw_sl N q * 2 ^ 45 := Nat.mul_le_mul_right _ hs
  omega
theorem nw_key_sl {N : nw_N} {p q : List Nat} (hs : nw_sl N p < nw_sl N q) (hp2 : ∀ e ∈ p, e < 24) : nw_key N p < nw_key N q := by
  have h1 := nw_dg_lt 9 p hp2
  unfold nw_key
  have : (nw_sl N p + 1) * 2 ^ 45 ≤ nw_sl N q * 2 ^ 45 := Nat.mul_le_mul_right _ hs
  rw [Nat.add_mul] at this
  have e : 32 ^ 9 = 2 ^ 45 := by decide
  omega
theorem nw_key_iff {N : nw_N} {l : List (List Nat)} (hl : nw_gp l) {p q : List Nat} (hp : p ∈ l) (hq : q ∈ l) : nw_key N p < nw_key N q ↔ nw_sl N p < nw_sl N q ∨ (nw_sl N q = nw_sl N p ∧ nw_lx p q) := by
  obtain ⟨p1, p2, p3⟩ := hl.2 p hp
  obtain ⟨q1, q2, q3⟩ := hl.2 q hq
  constructor
  · intro h
    by_cases c1 : nw_sl N p < nw_sl N q
    · exact Or.inl c1
    · by_cases c2 : nw_sl N q < nw_sl N p
      · have := nw_key_sl c2 q3; omega
      · rcases nw_pw_tri hl.1 hp hq with rfl | h1 | h1
        · omega
        · exact Or.inr ⟨by omega, h1⟩
        · have := nw_key_lx (N := N) h1 (by omega) q1 q3; omega
  · rintro (h | ⟨h1, h2⟩)
    · exact nw_key_sl h p3
    · exact nw_key_lx h2 (by omega) p1 p3
theorem nw_key_inj {N : nw_N} {l : List (List Nat)} (hl : nw_gp l) {p q : List Nat} (hp : p ∈ l) (hq : q ∈ l) (h : nw_key N p = nw_key N q) : p = q := by
  obtain ⟨p1, p2, p3⟩ := hl.2 p hp
  obtain ⟨q1, q2, q3⟩ := hl.2 q hq
  by_cases c1 : nw_sl N p < nw_sl N q
  · have := nw_key_sl c1 p3; omega
  · by_cases c2 : nw_sl N q < nw_sl N p
    · have := nw_key_sl c2 q3; omega
    · rcases nw_pw_tri hl.1 hp hq with rfl | h1 | h1
      · rfl
      · have := nw_key_lx (N := N) h1 (by omega) p1 p3; omega
      · have := nw_key_lx (N := N) h1 (by omega) q1 q3; omega
/-! ===== the page: the least sixteen numbers above cur ===== -/
def nw_kp (cur : Nat) (pg : List Nat) (x : Nat) (pg' : List Nat) : Prop := (pg' = pg ∧ (x ≤ cur ∨ (pg.length = 16 ∧ ∃ z, pg[15]? = some z ∧ z ≤ x))) ∨ (cur < x ∧ (pg.length < 16 ∨ (pg.length = 16 ∧ ∃ z, pg[15]? = some z ∧ x < z)) ∧ ∃ A B, pg = A ++ B ∧ pg' = (A ++ x :: B).take 16 ∧ (∀ y ∈ A, y ≤ x) ∧ ∀ y ∈ B, x < y)
def nw_ks (cur : Nat) : List Nat → List Nat → List Nat → Prop
  | pg, [], pg' => pg' = pg
  | pg, x :: xs, pg' => ∃ m, nw_kp cur pg x m ∧ nw_ks cur m xs pg'
theorem nw_ks_app {cur : Nat} : ∀ (xs ys pg pg' pg'' : List Nat), nw_ks cur pg xs pg' → nw_ks cur pg' ys pg'' → nw_ks cur pg (xs ++ ys) pg'' := by
  intro xs
  induction xs with
  | nil => rintro ys pg pg' pg'' h h2; cases h; exact h2
  | cons x xs ih => rintro ys pg pg' pg'' ⟨m, h1, h⟩ h2; exact ⟨m, h1, ih _ _ _ _ h h2⟩
theorem nw_ks_no {cur z : Nat} {pg : List Nat} (hl : pg.length = 16) (hz : pg[15]? = some z) : ∀ xs : List Nat, (∀ x ∈ xs, z ≤ x) → nw_ks cur pg xs pg := by
  intro xs
  induction xs with
  | nil => intro _; rfl
  | cons x xs ih => intro h; exact ⟨pg, Or.inl ⟨rfl, Or.inr ⟨hl, z, hz, h x List.mem_cons_self⟩⟩, ih (fun y hy => h y (List.mem_cons_of_mem _ hy))⟩
def nw_pgI (cur : Nat) (done : Nat → Prop) (pg : List Nat) : Prop := pg.Pairwise (fun a b => a < b) ∧ pg.length ≤ 16 ∧ (∀ k ∈ pg, done k ∧ cur < k) ∧ ∀ k, done k → cur < k → k ∈ pg ∨ (pg.length = 16 ∧ ∀ y ∈ pg, y < k)
theorem nw_pg_top {pg : List Nat} {z : Nat} (hp : pg.Pairwise (fun a b => a < b)) (hl : pg.length = 16) (hz : pg[15]? = some z) : ∀ y ∈ pg, y ≤ z := by
  intro y hy
  obtain ⟨i, hi⟩ := List.mem_iff_getElem?.mp hy
  obtain ⟨hi1, hi2⟩ := List.getElem?_eq_some_iff.mp hi
  obtain ⟨hz1, hz2⟩ := List.getElem?_eq_some_iff.mp hz
  by_cases e : i = 15
  · subst e; rw [hi] at hz; cases hz; exact Nat.le_refl _
  · have := List.pairwise_iff_getElem.mp hp i 15 hi1 hz1 (by omega)
    omega
theorem nw_pg_step {cur x : Nat} {done : Nat → Prop} {pg pg' : List Nat} (hI : nw_pgI cur done pg) (hx : ¬ done x) (h : nw_kp cur pg x pg') : nw_pgI cur (fun k => done k ∨ k = x) pg' := by
  obtain ⟨h1, h2, h3, h4⟩ := hI
  rcases h with ⟨rfl, h⟩ | ⟨hc, hl, A, B, rfl, rfl, hA, hB⟩
  · refine ⟨h1, h2, fun k hk => ⟨Or.inl (h3 k hk).1, (h3 k hk).2⟩, fun k hk hck => ?_⟩
    rcases hk with hk | rfl
    · exact h4 k hk hck
    · rcases h with h | ⟨h, z, hz, hzx⟩
      · omega
      · refine Or.inr ⟨h, fun y hy => ?_⟩
        have := nw_pg_top h1 h hz y hy
        have h5 : y ≠ k := fun e => hx (e ▸ (h3 y hy).1)
        omega
  · have hn : ∀ y ∈ A ++ B, y ≠ x := fun y hy e => hx (e ▸ (h3 y hy).1)
    have hp : (A ++ x :: B).Pairwise (fun a b => a < b) := by
      rw [List.pairwise_append] at h1 ⊢
      refine ⟨h1.1, List.pairwise_cons.mpr ⟨hB, h1.2.1⟩, fun a ha b hb => ?_⟩
      rcases List.mem_cons.mp hb with rfl | hb
      · have := hA a ha
        have := hn a (List.mem_append_left _ ha)
        omega
      · exact h1.2.2 a ha b hb
    have hs : (A ++ x :: B).take 16 ++ (A ++ x :: B).drop 16 = A ++ x :: B := List.take_append_drop _ _
    have hm : ∀ k, k ∈ A ++ x :: B ↔ k ∈ A ++ B ∨ k = x := fun k => by
      simp only [List.mem_append, List.mem_cons]
      constructor
      · rintro (h | h | h)
        · exact Or.inl (Or.inl h)
        · exact Or.inr h
        · exact Or.inl (Or.inr h)
      · rintro ((h | h) | h)
        · exact Or.inl h
        · exact Or.inr (Or.inr h)
        · exact Or.inr (Or.inl h)
    refine ⟨List.Pairwise.sublist (List.take_sublist _ _) hp, by rw [List.length_take]; omega, fun k hk => ?_, fun k hk hck => ?_⟩
    · rcases (hm k).mp (List.mem_of_mem_take hk) with h | rfl
      · exact ⟨Or.inl (h3 k h).1, (h3 k h).2⟩
      · exact ⟨Or.inr rfl, hc⟩
    · have key : k ∈ A ++ x :: B → k ∈ (A ++ x :: B).take 16 ∨ (((A ++ x :: B).take 16).length = 16 ∧ ∀ y ∈ (A ++ x :: B).take 16, y < k) := fun hk => by
        rw [← hs, List.mem_append] at hk
        rcases hk with hk | hk
        · exact Or.inl hk
        · refine Or.inr ⟨?_, fun y hy => ?_⟩
          · have : 0 < ((A ++ x :: B).drop 16).length := List.length_pos_of_mem hk
            rw [List.length_drop] at this
            rw [List.length_take]
            omega
          · rw [← hs, List.pairwise_append] at hp
            exact hp.2.2 y hy k hk
      rcases hk with hk | rfl
      · rcases h4 k hk hck with h | ⟨h, h5⟩
        · exact key ((hm k).mpr (Or.inl h))
        · refine Or.inr ⟨?_, fun y hy => ?_⟩
          · rw [List.length_take]
            rw [List.length_append] at h ⊢
            rw [List.length_cons]
            omega
          · rcases (hm y).mp (List.mem_of_mem_take hy) with h6 | rfl
            · exact h5 y h6
            · rcases hl with hl | ⟨hl, z, hz, hxz⟩
              · omega
              · have := h5 z (List.mem_of_getElem? hz)
                omega
      · exact key ((hm k).mpr (Or.inr rfl))
theorem nw_pg_all {cur : Nat} : ∀ (xs pg pg' : List Nat) (done : Nat → Prop), nw_pgI cur done pg → nw_ks cur pg xs pg' → (∀ x ∈ xs, ¬ done x) → xs.Pairwise (fun a b => a ≠ b) → nw_pgI cur (fun k => done k ∨ k ∈ xs) pg' := by
  intro xs
  induction xs with
  | nil =>
    intro pg pg' done hI h hd hp
    cases h
    obtain ⟨h1, h2, h3, h4⟩ := hI
    exact ⟨h1, h2, fun k hk => ⟨Or.inl (h3 k hk).1, (h3 k hk).2⟩, fun k hk hc => h4 k (by rcases hk with h | h; exact h; simp at h) hc⟩
  | cons x xs ih =>
    rintro pg pg' done hI ⟨m, h1, h⟩ hd hp
    rw [List.pairwise_cons] at hp
    have h2 := ih m pg' _ (nw_pg_step hI (hd x List.mem_cons_self) h1) h (fun y hy hn => by
      rcases hn with hn | rfl
      · exact hd y (List.mem_cons_of_mem _ hy) hn
      · exact hp.1 y hy rfl) hp.2
    obtain ⟨g1, g2, g3, g4⟩ := h2
    refine ⟨g1, g2, fun k hk => ?_, fun k hk hc => g4 k ?_ hc⟩
    · obtain ⟨h5, h6⟩ := g3 k hk
      refine ⟨?_, h6⟩
      rcases h5 with (h5 | rfl) | h5
      · exact Or.inl h5
      · exact Or.inr List.mem_cons_self
      · exact Or.inr (List.mem_cons_of_mem _ h5)
    · rcases hk with hk | hk
      · exact Or.inl (Or.inl hk)
      · rcases List.mem_cons.mp hk with rfl | hk
        · exact Or.inl (Or.inr rfl)
        · exact Or.inr hk
/-! ===== the least one behind, as the reference finds it ===== -/
def nw_mb (N : nw_N) (cur : Nat) (best : Option (List Nat)) (p : List Nat) : Option (List Nat) := match best with
  | none => if cur < nw_key N p then some p else none
  | some b => if cur < nw_key N p ∧ nw_sl N p < nw_sl N b then some p else some b
def nw_mbI (N : nw_N) (cur : Nat) (done : List Nat → Prop) (best : Option (List Nat)) : Prop := match best with
  | none => ∀ p, done p → ¬ cur < nw_key N p
  | some b => done b ∧ cur < nw_key N b ∧ ∀ p, done p → cur < nw_key N p → nw_key N b ≤ nw_key N p
theorem nw_mb_all {N : nw_N} {cur : Nat} : ∀ (l done : List (List Nat)) (best : Option (List Nat)), nw_gp (done ++ l) → nw_mbI N cur (fun p => p ∈ done) best → nw_mbI N cur (fun p => p ∈ done ++ l) (l.foldl (nw_mb N cur) best) := by
  intro l
  induction l with
  | nil => intro done best _ h; rw [List.append_nil]; exact h
  | cons p l ih =>
    intro done best hg h
    have e : done ++ p :: l = (done ++ [p]) ++ l := by simp
    rw [e] at hg ⊢
    rw [List.foldl_cons]
    refine ih (done ++ [p]) _ hg ?_
    have hp1 : ∀ d ∈ done, nw_lx d p := fun d hd => by
      have := hg.1
      rw [List.append_assoc, List.pairwise_append] at this
      exact this.2.2 d hd p (by simp)
    cases best with
    | none =>
      simp only [nw_mb]
      by_cases c : cur < nw_key N p
      · rw [if_pos c]
        refine ⟨by simp, c, fun q hq hc => ?_⟩
        rcases List.mem_append.mp hq with hq | hq
        · exact absurd hc (h q hq)
        · rw [List.mem_singleton.mp hq]; exact Nat.le_refl _
      · rw [if_neg c]
        intro q hq
        rcases List.mem_append.mp hq with hq | hq
        · exact h q hq
        · rw [List.mem_singleton.mp hq]; exact c
    | some b =>
      obtain ⟨h1, h2, h3⟩ := h
      simp only [nw_mb]
      have hpo := hg.2 p (by simp)
      by_cases c : cur < nw_key N p ∧ nw_sl N p < nw_sl N b
      · rw [if_pos c]
        refine ⟨by simp, c.1, fun q hq hc => ?_⟩
        rcases List.mem_append.mp hq with hq | hq
        · have := h3 q hq hc
          have := nw_key_sl (N := N) c.2 hpo.2.2
          omega
        · rw [List.mem_singleton.mp hq]; exact Nat.le_refl _
      · rw [if_neg c]
        refine ⟨List.mem_append_left _ h1, h2, fun q hq hc => ?_⟩
        rcases List.mem_append.mp hq with hq | hq
        · exact h3 q hq hc
        · rw [List.mem_singleton.mp hq] at hc ⊢
          have hb := hg.2 b (by simp [h1])
          exact Nat.le_of_lt (nw_key_lx (hp1 b h1) (by omega) hb.1 hb.2.2)
