/-! ===== walks, counted by their lengths ===== -/
def wk_S : Nat → (Nat → Nat) → Nat
  | 0, _ => 0
  | n + 1, f => wk_S n f + f n
theorem wk_S_congr {n : Nat} {f g : Nat → Nat} (h : ∀ a, a < n → f a = g a) : wk_S n f = wk_S n g := by
  induction n with
  | zero => rfl
  | succ n ih =>
    show wk_S n f + f n = wk_S n g + g n
    rw [ih (fun a ha => h a (by omega)), h n (by omega)]
theorem wk_S_le {n : Nat} {f g : Nat → Nat} (h : ∀ a, a < n → f a ≤ g a) : wk_S n f ≤ wk_S n g := by
  induction n with
  | zero => exact Nat.le_refl _
  | succ n ih =>
    show wk_S n f + f n ≤ wk_S n g + g n
    have h1 := ih (fun a ha => h a (by omega))
    have h2 := h n (by omega)
    omega
theorem wk_S_add (n : Nat) (f g : Nat → Nat) : wk_S n (fun a => f a + g a) = wk_S n f + wk_S n g := by
  induction n with
  | zero => rfl
  | succ n ih =>
    show wk_S n _ + (f n + g n) = wk_S n f + f n + (wk_S n g + g n)
    rw [ih]; omega
/-- m edges; o e v: edge e is usable and begins at v; hd, ln -/
def wk_w (m : Nat) (o : Nat → Nat → Bool) (hd ln : Nat → Nat) (to : Nat) : Nat → Nat → Nat → Nat
  | 0, v, L => if L = 0 ∧ v = to then 1 else 0
  | f + 1, v, L => if L = 0 then (if v = to then 1 else 0) else wk_S m (fun e => if o e v = true ∧ ln e ≤ L then wk_w m o hd ln to f (hd e) (L - ln e) else 0)
theorem wk_w_fuel {m : Nat} {o : Nat → Nat → Bool} {hd ln : Nat → Nat} {to : Nat} (hln : ∀ e, e < m → 1 ≤ ln e) : ∀ (L f g v : Nat), L ≤ f → L ≤ g → wk_w m o hd ln to f v L = wk_w m o hd ln to g v L := by
  intro L
  induction L using Nat.strongRecOn with
  | _ L ih =>
    intro f g v hf hg
    by_cases e0 : L = 0
    · subst e0
      cases f <;> cases g <;> simp [wk_w]
    · cases f with
      | zero => omega
      | succ f =>
        cases g with
        | zero => omega
        | succ g =>
          simp only [wk_w]
          rw [if_neg e0, if_neg e0]
          refine wk_S_congr (fun e he => ?_)
          by_cases c : o e v = true ∧ ln e ≤ L
          · rw [if_pos c, if_pos c]
            have := hln e he
            exact ih (L - ln e) (by omega) f g (hd e) (by omega) (by omega)
          · rw [if_neg c, if_neg c]
/-- how many walks of length L lead from v -/
def wk_W (m : Nat) (o : Nat → Nat → Bool) (hd ln : Nat → Nat) (to v L : Nat) : Nat := wk_w m o hd ln to L v L
theorem wk_W0 {m : Nat} {o : Nat → Nat → Bool} {hd ln : Nat → Nat} {to v : Nat} : wk_W m o hd ln to v 0 = if v = to then 1 else 0 := by
  simp [wk_W, wk_w]
theorem wk_WS {m : Nat} {o : Nat → Nat → Bool} {hd ln : Nat → Nat} {to v L : Nat} (hln : ∀ e, e < m → 1 ≤ ln e) (hL : 0 < L) : wk_W m o hd ln to v L = wk_S m (fun e => if o e v = true ∧ ln e ≤ L then wk_W m o hd ln to (hd e) (L - ln e) else 0) := by
  unfold wk_W
  cases L with
  | zero => omega
  | succ L =>
    rw [wk_w, if_neg (by omega)]
    refine wk_S_congr (fun e he => ?_)
    by_cases c : o e v = true ∧ ln e ≤ L + 1
    · rw [if_pos c, if_pos c]
      have := hln e he
      exact wk_w_fuel hln _ _ _ _ (by omega) (Nat.le_refl _)
    · rw [if_neg c, if_neg c]
/-- how many shorter ones -/
def wk_C (m : Nat) (o : Nat → Nat → Bool) (hd ln : Nat → Nat) (to v L : Nat) : Nat := wk_S L (fun l => wk_W m o hd ln to v l)
