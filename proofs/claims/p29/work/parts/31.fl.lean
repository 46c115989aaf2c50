/-- a sum over a < n -/
def fl_S : Nat → (Nat → Int) → Int
  | 0, _ => 0
  | n + 1, f => fl_S n f + f n
theorem fl_S_congr {n : Nat} {f g : Nat → Int} (h : ∀ a, a < n → f a = g a) : fl_S n f = fl_S n g := by
  induction n with
  | zero => rfl
  | succ n ih =>
    show fl_S n f + f n = fl_S n g + g n
    rw [ih (fun a ha => h a (by omega)), h n (by omega)]
theorem fl_S_add (n : Nat) (f g : Nat → Int) : fl_S n (fun a => f a + g a) = fl_S n f + fl_S n g := by
  induction n with
  | zero => rfl
  | succ n ih =>
    show fl_S n _ + (f n + g n) = fl_S n f + f n + (fl_S n g + g n)
    rw [ih]; omega
theorem fl_S_sub (n : Nat) (f g : Nat → Int) : fl_S n (fun a => f a - g a) = fl_S n f - fl_S n g := by
  induction n with
  | zero => rfl
  | succ n ih =>
    show fl_S n _ + (f n - g n) = fl_S n f + f n - (fl_S n g + g n)
    rw [ih]; omega
theorem fl_S_nonneg {n : Nat} {f : Nat → Int} (h : ∀ a, a < n → 0 ≤ f a) : 0 ≤ fl_S n f := by
  induction n with
  | zero => exact Int.le_refl _
  | succ n ih =>
    show 0 ≤ fl_S n f + f n
    have h1 := ih (fun a ha => h a (by omega))
    have h2 := h n (by omega)
    omega
theorem fl_S_zero (n : Nat) : fl_S n (fun _ => 0) = 0 := by
  induction n with
  | zero => rfl
  | succ n ih => show fl_S n _ + 0 = 0; rw [ih]; rfl
/-- a sum with one place changed -/
theorem fl_S_one {n k : Nat} {f : Nat → Int} {v : Int} (hk : k < n) : fl_S n (fun a => if a = k then f a + v else f a) = fl_S n f + v := by
  induction n with
  | zero => omega
  | succ n ih =>
    show fl_S n _ + (if n = k then f n + v else f n) = fl_S n f + f n + v
    by_cases e : n = k
    · rw [if_pos e, fl_S_congr (g := f) (fun a ha => if_neg (by omega))]; omega
    · rw [if_neg e, ih (by omega)]; omega
/-- x is a flow of so many from s to t, said dually -/
def fl_F (M : Nat) (tl hd : Nat → Nat) (s t : Nat) (x : Nat → Int) (val : Int) : Prop := ∀ π : Nat → Int, fl_S M (fun a => x a * (π (hd a) - π (tl a))) = val * (π t - π s)
theorem fl_F0 {M : Nat} {tl hd : Nat → Nat} {s t : Nat} : fl_F M tl hd s t (fun _ => 0) 0 := by
  intro π
  rw [fl_S_congr (g := fun _ => 0) (fun a _ => by simp), fl_S_zero]; simp
/-- the prices fit the flow -/
def fl_P (M : Nat) (tl hd : Nat → Nat) (c u x π : Nat → Int) : Prop := ∀ a, a < M → (x a < u a → 0 ≤ c a + π (tl a) - π (hd a)) ∧ (0 < x a → c a + π (tl a) - π (hd a) ≤ 0)
/-- no other flow is cheaper than the prices allow -/
theorem fl_dual {M : Nat} {tl hd : Nat → Nat} {s t : Nat} {c u x y π : Nat → Int} {val val' : Int} (hx : fl_F M tl hd s t x val) (hy : fl_F M tl hd s t y val') (hP : fl_P M tl hd c u x π)
    (hyb : ∀ a, a < M → 0 ≤ y a ∧ y a ≤ u a) : fl_S M (fun a => c a * x a) + (val' - val) * (π t - π s) ≤ fl_S M (fun a => c a * y a) := by
  have h1 : 0 ≤ fl_S M (fun a => (y a - x a) * (c a + π (tl a) - π (hd a))) := by
    refine fl_S_nonneg (fun a ha => ?_)
    obtain ⟨p1, p2⟩ := hP a ha
    obtain ⟨y1, y2⟩ := hyb a ha
    by_cases e : x a < y a
    · exact Int.mul_nonneg (by omega) (p1 (by omega))
    · by_cases e2 : y a < x a
      · exact Int.mul_nonneg_of_nonpos_of_nonpos (by omega) (p2 (by omega))
      · rw [show y a - x a = 0 by omega]; simp
  have h2 := hx π
  have h3 := hy π
  have h4 : fl_S M (fun a => (y a - x a) * (c a + π (tl a) - π (hd a))) = (fl_S M (fun a => c a * y a) - fl_S M (fun a => c a * x a)) - (fl_S M (fun a => y a * (π (hd a) - π (tl a))) - fl_S M (fun a => x a * (π (hd a) - π (tl a)))) := by
    rw [← fl_S_sub, ← fl_S_sub, ← fl_S_sub]
    refine fl_S_congr (fun a _ => ?_)
    generalize π (tl a) = p
    generalize π (hd a) = q
    generalize x a = xx
    generalize y a = yy
    generalize c a = cc
    grind
  rw [h4, h2, h3] at h1
  have h5 : (val' - val) * (π t - π s) = val' * (π t - π s) - val * (π t - π s) := Int.sub_mul _ _ _
  omega
def fl_up (x : Nat → Int) (a : Nat) (v : Int) : Nat → Int := fun k => if k = a then x k + v else x k
/-- one path more, traced in n steps from p back to s: x becomes x'; its arcs satisfy T, and are changed within the caps -/
def fl_A (M : Nat) (tl hd : Nat → Nat) (u : Nat → Int) (T : Nat → Prop) (s : Nat) : Nat → Nat → (Nat → Int) → (Nat → Int) → Prop
  | 0, p, x, x' => p = s ∧ x' = x
  | n + 1, p, x, x' => (∃ a, a < M ∧ T a ∧ hd a = p ∧ x a < u a ∧ fl_A M tl hd u T s n (tl a) (fl_up x a 1) x') ∨ (∃ a, a < M ∧ T a ∧ tl a = p ∧ 0 < x a ∧ fl_A M tl hd u T s n (hd a) (fl_up x a (-1)) x')
theorem fl_up_sum {M a : Nat} {x w : Nat → Int} {v : Int} (ha : a < M) : fl_S M (fun k => fl_up x a v k * w k) = fl_S M (fun k => x k * w k) + v * w a := by
  rw [← fl_S_one (f := fun k => x k * w k) (v := v * w a) ha]
  refine fl_S_congr (fun k _ => ?_)
  unfold fl_up
  by_cases e : k = a
  · subst e; rw [if_pos rfl, if_pos rfl]; grind
  · rw [if_neg e, if_neg e]
theorem fl_A_flow {M : Nat} {tl hd : Nat → Nat} {u : Nat → Int} {T : Nat → Prop} {s : Nat} {x' : Nat → Int} (π : Nat → Int) : ∀ (n p : Nat) (x : Nat → Int), fl_A M tl hd u T s n p x x' → fl_S M (fun a => x' a * (π (hd a) - π (tl a))) = fl_S M (fun a => x a * (π (hd a) - π (tl a))) + (π p - π s) := by
  intro n
  induction n with
  | zero => rintro p x ⟨rfl, rfl⟩; omega
  | succ n ih =>
    rintro p x (⟨a, ha, -, hp, -, h⟩ | ⟨a, ha, -, hp, -, h⟩) <;> rw [ih _ _ h, fl_up_sum ha, hp] <;> omega
theorem fl_A_F {M : Nat} {tl hd : Nat → Nat} {u : Nat → Int} {T : Nat → Prop} {s t n : Nat} {x x' : Nat → Int} {val : Int} (h : fl_A M tl hd u T s n t x x') (hx : fl_F M tl hd s t x val) : fl_F M tl hd s t x' (val + 1) := by
  intro π
  rw [fl_A_flow π n t x h, hx π, Int.add_mul]; omega
theorem fl_A_cost {M : Nat} {tl hd : Nat → Nat} {c u π : Nat → Int} {T : Nat → Prop} {s : Nat} {x' : Nat → Int} (hT : ∀ a, T a → c a + π (tl a) - π (hd a) = 0) : ∀ (n p : Nat) (x : Nat → Int), fl_A M tl hd u T s n p x x' → fl_S M (fun a => x' a * c a) = fl_S M (fun a => x a * c a) + (π p - π s) := by
  intro n
  induction n with
  | zero => rintro p x ⟨rfl, rfl⟩; omega
  | succ n ih =>
    rintro p x (⟨a, ha, ht, hp, -, h⟩ | ⟨a, ha, ht, hp, -, h⟩) <;> have := hT _ ht <;> rw [ih _ _ h, fl_up_sum ha, ← hp] <;> omega
theorem fl_A_P {M : Nat} {tl hd : Nat → Nat} {c u π : Nat → Int} {T : Nat → Prop} {s : Nat} {x' : Nat → Int} (hT : ∀ a, T a → c a + π (tl a) - π (hd a) = 0) : ∀ (n p : Nat) (x : Nat → Int), fl_A M tl hd u T s n p x x' → fl_P M tl hd c u x π → fl_P M tl hd c u x' π := by
  intro n
  induction n with
  | zero => rintro p x ⟨rfl, rfl⟩ h; exact h
  | succ n ih =>
    rintro p x (⟨a, ha, ht, hp, -, h⟩ | ⟨a, ha, ht, hp, -, h⟩) hP <;> refine ih _ _ h (fun k hk => ?_) <;> have h1 := hP k hk <;> unfold fl_up <;> split
    · rename_i e; subst e; have := hT _ ht; exact ⟨fun _ => by omega, fun _ => by omega⟩
    · exact h1
    · rename_i e; subst e; have := hT _ ht; exact ⟨fun _ => by omega, fun _ => by omega⟩
    · exact h1
theorem fl_A_caps {M : Nat} {tl hd : Nat → Nat} {u : Nat → Int} {T : Nat → Prop} {s : Nat} {x' : Nat → Int} : ∀ (n p : Nat) (x : Nat → Int), fl_A M tl hd u T s n p x x' → (∀ a, a < M → 0 ≤ x a ∧ x a ≤ u a) → ∀ a, a < M → 0 ≤ x' a ∧ x' a ≤ u a := by
  intro n
  induction n with
  | zero => rintro p x ⟨rfl, rfl⟩ h; exact h
  | succ n ih =>
    rintro p x (⟨a, ha, -, -, hr, h⟩ | ⟨a, ha, -, -, hr, h⟩) hb <;> refine ih _ _ h (fun k hk => ?_) <;> have h1 := hb k hk <;> unfold fl_up <;> split
    · rename_i e; subst e; omega
    · exact h1
    · rename_i e; subst e; omega
    · exact h1
/-- new prices: the old ones and the capped reduced distances -/
theorem fl_P_new {M : Nat} {tl hd : Nat → Nat} {c u x π y : Nat → Int} {K : Int} (hP : fl_P M tl hd c u x π)
    (h1 : ∀ a, a < M → x a < u a → K ≤ y (tl a) ∨ y (hd a) ≤ y (tl a) + (c a + π (tl a) - π (hd a)))
    (h2 : ∀ a, a < M → 0 < x a → K ≤ y (hd a) ∨ y (tl a) ≤ y (hd a) - (c a + π (tl a) - π (hd a))) : fl_P M tl hd c u x (fun v => π v + min (y v) K) := by
  intro a ha
  obtain ⟨p1, p2⟩ := hP a ha
  refine ⟨fun h => ?_, fun h => ?_⟩
  · have := p1 h
    have := h1 a ha h
    show 0 ≤ c a + (π (tl a) + min (y (tl a)) K) - (π (hd a) + min (y (hd a)) K)
    omega
  · have := p2 h
    have := h2 a ha h
    show c a + (π (tl a) + min (y (tl a)) K) - (π (hd a) + min (y (hd a)) K) ≤ 0
    omega
