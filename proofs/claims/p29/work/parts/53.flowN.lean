/-! ===== the two networks of arcs ===== -/
def nw_tl (N : nw_N) (a : Nat) : Nat := if a < 24 then 2 * nw_t N a + 1 else 2 * (a - 24)
def nw_hd (N : nw_N) (a : Nat) : Nat := if a < 24 then 2 * nw_e N a else 2 * (a - 24) + 1
def nw_cc (N : nw_N) (a : Nat) : Nat := if a < nw_m N ∧ nw_us N a = true then nw_l N a else 0
def nw_uA (N : nw_N) (fr to : Nat) (ap : Bool) (a : Nat) : Nat := if a < 24 then (if a < nw_m N ∧ nw_us N a = true then 1 else 0) else if a = 24 + fr ∨ a = 24 + to then 0 else if ap = true then 1 else 24
theorem nw_S_le2 {n : Nat} {f g : Nat → Int} (h : ∀ a, a < n → f a ≤ g a) : fl_S n f ≤ fl_S n g := by
  have h1 := fl_S_nonneg (n := n) (f := fun a => g a - f a) (fun a ha => by have := h a ha; omega)
  rw [fl_S_sub] at h1
  omega
section NWM
variable {N : nw_N} {fr to : Nat} {ap : Bool}
theorem nw_gntA (hW : nw_W N) (hfr : fr < nw_n N) (hto : to < nw_n N) : nw_gnt (nw_tl N) (nw_hd N) (nw_cc N) (nw_uA N fr to ap) (2 * fr + 1) (2 * to) := by
  have hn := hW.n
  refine ⟨fun a ha hu => ?_, by omega, by omega, by omega⟩
  unfold nw_uA at hu
  unfold nw_tl nw_hd nw_cc
  by_cases c : a < 24
  · rw [if_pos c] at hu ⊢
    rw [if_pos c]
    by_cases c2 : a < nw_m N ∧ nw_us N a = true
    · have := hW.e c2.1
      rw [if_pos c2]; omega
    · rw [if_neg c2] at hu; omega
  · rw [if_neg c, if_neg c, if_neg (fun h => by omega)]; omega
theorem nw_G0 {u : Nat → Nat} {s t : Nat} : nw_G (nw_tl N) (nw_hd N) (nw_cc N) u s t 0 (fun _ => 0) (fun _ => 0) := by
  refine ⟨fun a _ => Nat.zero_le _, ?_, fun a ha => ⟨fun _ => ?_, fun h => ?_⟩, rfl, fun p _ => ⟨Int.le_refl _, Int.le_refl _⟩⟩
  · exact fl_F0
  · show 0 ≤ (nw_cc N a : Int) + 0 - 0
    omega
  · exact absurd h (by show ¬ (0 : Int) < ((0 : Nat) : Int); omega)
theorem nw_cc0 (hW : nw_W N) {a : Nat} (h : 24 ≤ a) : nw_cc N a = 0 := by
  have hn := hW.n
  unfold nw_cc
  rw [if_neg (fun h2 => by omega)]
theorem nw_dualG {tl hd c u x y : Nat → Nat} {s t k : Nat} {π : Nat → Int} (hG : nw_G tl hd c u s t k x π) (hy : nw_fe2 tl hd u s t (k : Int) y) : nw_co c x ≤ nw_co c y := by
  have hd := fl_dual hG.2.1 hy.2 hG.2.2.1 (fun a ha => ⟨by show 0 ≤ (y a : Int); omega, by have := hy.1 a ha; show (y a : Int) ≤ (u a : Int); omega⟩)
  have e : ((k : Int) - (k : Int)) = 0 := by omega
  rw [e, Int.zero_mul, Int.add_zero] at hd
  exact hd
theorem nw_co_b (hW : nw_W N) {x : Nat → Nat} (h : ∀ a, a < 34 → x a ≤ nw_uA N fr to ap a) : 0 ≤ nw_co (nw_cc N) x ∧ nw_co (nw_cc N) x ≤ 24000 := by
  have hn := hW.n
  refine ⟨fl_S_nonneg (fun a _ => Int.mul_nonneg (by omega) (by omega)), ?_⟩
  have h1 : nw_co (nw_cc N) x ≤ fl_S 34 (fun a => if a < 24 then 1000 else 0) := by
    refine nw_S_le2 (fun a ha => ?_)
    have hc := h a ha
    unfold nw_uA at hc
    by_cases c : a < 24
    · rw [if_pos c] at hc ⊢
      by_cases c2 : a < nw_m N ∧ nw_us N a = true
      · rw [if_pos c2] at hc
        have hb := hW.e c2.1
        have e : nw_cc N a ≤ 1000 := by unfold nw_cc; rw [if_pos c2]; omega
        have h3 : nw_cc N a * x a ≤ 1000 * 1 := Nat.mul_le_mul e hc
        have h4 : ((nw_cc N a * x a : Nat) : Int) = (nw_cc N a : Int) * (x a : Int) := Int.natCast_mul _ _
        omega
      · rw [if_neg c2] at hc
        have : x a = 0 := by omega
        rw [this]; simp
    · rw [if_neg c, nw_cc0 hW (by omega)]; simp
  have h2 : fl_S 34 (fun a => if a < 24 then 1000 else 0) = 24000 := by decide
  omega
end NWM
