/-! ===== the reference's paths ===== -/
theorem nw_sl_app {N : nw_N} (p q : List Nat) : nw_sl N (p ++ q) = nw_sl N p + nw_sl N q := by
  induction p with
  | nil => rw [List.nil_append, show nw_sl N [] = 0 from rfl, Nat.zero_add]
  | cons a p ih => rw [List.cons_append]; show nw_l N a + nw_sl N (p ++ q) = nw_l N a + nw_sl N p + nw_sl N q; rw [ih, Nat.add_assoc]
/-- a row holds a list -/
def nw_rw (f : Nat → Int32) (l : List Nat) : Prop := ∀ i x, l[i]? = some x → f i = nI x
theorem nw_rw_app {f : Nat → Int32} {p q : List Nat} : nw_rw f (p ++ q) ↔ nw_rw f p ∧ ∀ i x, q[i]? = some x → f (p.length + i) = nI x := by
  constructor
  · intro h
    refine ⟨fun i x hx => h i x ?_, fun i x hx => h _ x ?_⟩
    · rw [List.getElem?_append_left (List.getElem?_eq_some_iff.mp hx).1, hx]
    · rw [List.getElem?_append_right (by omega), show p.length + i - p.length = i by omega, hx]
  · rintro ⟨h1, h2⟩ i x hx
    by_cases e : i < p.length
    · rw [List.getElem?_append_left e] at hx; exact h1 i x hx
    · rw [List.getElem?_append_right (by omega)] at hx
      have := h2 _ x hx
      rwa [show p.length + (i - p.length) = i by omega] at this
def nw_pG (k j : Nat) : Bool := (k == 35 && (j == 21 || j == 22)) || (k == 43 || k == 44 || k == 45 || k == 46 || k == 47)
theorem nw_slb {N : nw_N} (hW : nw_W N) : ∀ p : List Nat, (∀ e ∈ p, e < nw_m N) → nw_sl N p ≤ 1000 * p.length := by
  intro p
  induction p with
  | nil => intro _; exact Nat.zero_le _
  | cons e p ih =>
    intro h
    have h1 := ih (fun x hx => h x (List.mem_cons_of_mem _ hx))
    have h2 := hW.e (h e List.mem_cons_self)
    show nw_l N e + nw_sl N p ≤ _
    rw [List.length_cons]
    omega
def nw_gm (N : nw_N) (l : List (List Nat)) : Prop := nw_gp l ∧ ∀ p ∈ l, ∀ e ∈ p, e < nw_m N