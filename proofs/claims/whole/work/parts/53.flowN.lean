/-! ===== the two networks of arcs ===== -/
def nw_tl (N : nw_N) (a : Nat) : Nat := if a < 24 then 2 * nw_t N a + 1 else 2 * (a - 24)
def nw_hd (N : nw_N) (a : Nat) : Nat := if a < 24 then 2 * nw_e N a else 2 * (a - 24) + 1
def nw_cc (N : nw_N) (a : Nat) : Nat := if a < nw_m N ∧ nw_us N a = true then nw_l N a else 0
def nw_uA (N : nw_N) (fr to : Nat) (ap : Bool) (a : Nat) : Nat := if a < 24 then (if a < nw_m N ∧ nw_us N a = true then 1 else 0) else if a = 24 + fr ∨ a = 24 + to then 0 else if ap = true then 1 else 24
def nw_uB (N : nw_N) (fr to : Nat) (ap : Bool) (a : Nat) : Nat := if a < 24 then (if a < nw_m N ∧ nw_us N a = true then 1 else 0) else if nw_n N ≤ a - 24 then 0 else if ap = true ∧ a ≠ 24 + fr ∧ a ≠ 24 + to then 1 else 24
theorem nw_S_le2 {n : Nat} {f g : Nat → Int} (h : ∀ a, a < n → f a ≤ g a) : fl_S n f ≤ fl_S n g := by
  have h1 := fl_S_nonneg (n := n) (f := fun a => g a - f a) (fun a ha => by have := h a ha; omega)
  rw [fl_S_sub] at h1
  omega
theorem nw_S_at {n k : Nat} {f : Nat → Int} {v : Int} (hk : k < n) (h : ∀ a, a < n → f a = if a = k then v else 0) : fl_S n f = v := by
  rw [fl_S_congr h]
  have := fl_S_one (f := fun _ => 0) (v := v) hk
  rw [fl_S_zero] at this
  rw [fl_S_congr (g := fun a => if a = k then 0 + v else 0) (fun a _ => by split <;> omega), this]
  omega
section NWM
variable {N : nw_N} {fr to : Nat} {ap : Bool}
theorem nw_gntA (hW : nw_W N) (hfr : fr < nw_n N) (hto : to < nw_n N) : nw_gnt (nw_tl N) (nw_hd N) (nw_cc N) (nw_uA N fr to ap) (2 * fr + 1) (2 * to) := by
  have hn := hW.n
  refine ⟨fun a ha hu => ?_, by omega, by omega, by omega⟩
  unfold nw_uA at hu
  unfold nw_tl nw_hd nw_cc
  by_cases c : a < 24
  · rw [if_pos c] at hu ⊢
    rw [if_pos c]
    by_cases c2 : a < nw_m N ∧ nw_us N a = true
    · have := hW.e c2.1
      rw [if_pos c2]; omega
    · rw [if_neg c2] at hu; omega
  · rw [if_neg c, if_neg c, if_neg (fun h => by omega)]; omega
theorem nw_gntB (hW : nw_W N) (hfr : fr < nw_n N) (hto : to < nw_n N) : nw_gnt (nw_tl N) (nw_hd N) (nw_cc N) (nw_uB N fr to ap) (2 * fr) (2 * to + 1) := by
  have hn := hW.n
  refine ⟨fun a ha hu => ?_, by omega, by omega, by omega⟩
  unfold nw_uB at hu
  unfold nw_tl nw_hd nw_cc
  by_cases c : a < 24
  · rw [if_pos c] at hu ⊢
    rw [if_pos c]
    by_cases c2 : a < nw_m N ∧ nw_us N a = true
    · have := hW.e c2.1
      rw [if_pos c2]; omega
    · rw [if_neg c2] at hu; omega
  · rw [if_neg c, if_neg c, if_neg (fun h => by omega)]; omega
theorem nw_G0 {u : Nat → Nat} {s t : Nat} : nw_G (nw_tl N) (nw_hd N) (nw_cc N) u s t 0 (fun _ => 0) (fun _ => 0) := by
  refine ⟨fun a _ => Nat.zero_le _, ?_, fun a ha => ⟨fun _ => ?_, fun h => ?_⟩, rfl, fun p _ => ⟨Int.le_refl _, Int.le_refl _⟩⟩
  · exact fl_F0
  · show 0 ≤ (nw_cc N a : Int) + 0 - 0
    omega
  · exact absurd h (by show ¬ (0 : Int) < ((0 : Nat) : Int); omega)
/-- the same flow, taken from node to node -/
def nw_ab (fr to k : Nat) (x : Nat → Nat) (a : Nat) : Nat := if a = 24 + fr ∨ a = 24 + to then k else x a
theorem nw_ab_sum (hfr : fr < 10) (hto : to < 10) (hne : fr ≠ to) {x : Nat → Nat} {k : Nat} (h1 : x (24 + fr) = 0) (h2 : x (24 + to) = 0) (D : Nat → Int) : fl_S 34 (fun a => (nw_ab fr to k x a : Int) * D a) = fl_S 34 (fun a => (x a : Int) * D a) + (k : Int) * D (24 + fr) + (k : Int) * D (24 + to) := by
  rw [← fl_S_one (n := 34) (k := 24 + fr) (f := fun a => (x a : Int) * D a) (v := (k : Int) * D (24 + fr)) (by omega), ← fl_S_one (n := 34) (k := 24 + to) (v := (k : Int) * D (24 + to)) (by omega)]
  refine fl_S_congr (fun a _ => ?_)
  unfold nw_ab
  by_cases c1 : a = 24 + to
  · subst c1
    rw [if_pos (Or.inr rfl), if_pos rfl, if_neg (by omega), h2]
    omega
  · rw [if_neg c1]
    by_cases c2 : a = 24 + fr
    · subst c2
      rw [if_pos (Or.inl rfl), if_pos rfl, h1]
      omega
    · rw [if_neg (by omega), if_neg c2]
theorem nw_cc0 (hW : nw_W N) {a : Nat} (h : 24 ≤ a) : nw_cc N a = 0 := by
  have hn := hW.n
  unfold nw_cc
  rw [if_neg (fun h2 => by omega)]
theorem nw_ab_co (hW : nw_W N) {x : Nat → Nat} {k : Nat} : nw_co (nw_cc N) (nw_ab fr to k x) = nw_co (nw_cc N) x := by
  unfold nw_co
  refine fl_S_congr (fun a _ => ?_)
  unfold nw_ab
  split
  · rename_i h
    rw [nw_cc0 hW (by omega)]
    simp
  · rfl
/-- a node that isn't there carries nothing -/
theorem nw_out0 (hW : nw_W N) (hfr : fr < nw_n N) (hto : to < nw_n N) {x : Nat → Nat} {k : Int} (h : nw_fe2 (nw_tl N) (nw_hd N) (nw_uA N fr to ap) (2 * fr + 1) (2 * to) k x) {v : Nat} (h1 : nw_n N ≤ v) (h2 : v < 10) : x (24 + v) = 0 := by
  have hn := hW.n
  have hF := h.2 (fun p => if p = 2 * v + 1 then 1 else 0)
  rw [nw_S_at (k := 24 + v) (v := (x (24 + v) : Int)) (by omega) (fun a ha => ?_)] at hF
  · rw [if_neg (by omega), if_neg (by omega)] at hF
    have e : k * ((0 : Int) - 0) = 0 := by simp
    rw [e] at hF
    omega
  · have hc := h.1 a ha
    unfold nw_uA at hc
    unfold nw_tl nw_hd
    dsimp only
    by_cases c : a < 24
    · rw [if_pos c] at hc
      rw [if_pos c, if_pos c]
      by_cases c2 : a < nw_m N ∧ nw_us N a = true
      · have := hW.e c2.1
        rw [if_neg (show ¬ 2 * nw_e N a = 2 * v + 1 by omega), if_neg (show ¬ 2 * nw_t N a + 1 = 2 * v + 1 by omega), if_neg (by omega)]
        simp
      · rw [if_neg c2] at hc
        have : x a = 0 := by omega
        rw [this, if_neg (show ¬ a = 24 + v by omega)]
        simp
    · rw [if_neg c, if_neg c, if_neg (show ¬ 2 * (a - 24) = 2 * v + 1 by omega)]
      by_cases c2 : a = 24 + v
      · subst c2
        rw [if_pos (by omega), if_pos rfl]; omega
      · rw [if_neg (by omega), if_neg c2]; omega
theorem nw_AtoB (hW : nw_W N) (hfr : fr < nw_n N) (hto : to < nw_n N) (hne : fr ≠ to) {x : Nat → Nat} {k : Nat} (hk : k ≤ 24) (h : nw_fe2 (nw_tl N) (nw_hd N) (nw_uA N fr to ap) (2 * fr + 1) (2 * to) (k : Int) x) : nw_fe2 (nw_tl N) (nw_hd N) (nw_uB N fr to ap) (2 * fr) (2 * to + 1) (k : Int) (nw_ab fr to k x) := by
  have hn := hW.n
  have z1 : x (24 + fr) = 0 := by
    have := h.1 (24 + fr) (by omega)
    unfold nw_uA at this
    rw [if_neg (by omega), if_pos (Or.inl rfl)] at this
    omega
  have z2 : x (24 + to) = 0 := by
    have := h.1 (24 + to) (by omega)
    unfold nw_uA at this
    rw [if_neg (by omega), if_pos (Or.inr rfl)] at this
    omega
  refine ⟨fun a ha => ?_, fun π => ?_⟩
  · have hc := h.1 a ha
    unfold nw_ab nw_uB
    unfold nw_uA at hc
    by_cases c : a < 24
    · rw [if_neg (by omega), if_pos c]
      rw [if_pos c] at hc
      exact hc
    · rw [if_neg c] at hc
      rw [if_neg c]
      by_cases c2 : a = 24 + fr ∨ a = 24 + to
      · rw [if_pos c2, if_neg (by omega), if_neg (by omega)]
        exact hk
      · rw [if_neg c2] at hc
        rw [if_neg c2]
        by_cases c3 : nw_n N ≤ a - 24
        · have := nw_out0 hW hfr hto h c3 (by omega)
          rw [show 24 + (a - 24) = a by omega] at this
          omega
        · rw [if_neg c3]
          by_cases c4 : ap = true
          · rw [if_pos c4] at hc
            rw [if_pos ⟨c4, by omega, by omega⟩]; exact hc
          · rw [if_neg c4] at hc
            rw [if_neg (fun h => c4 h.1)]; exact hc
  · have hF := h.2 π
    have hS := nw_ab_sum (by omega) (by omega) hne (k := k) z1 z2 (fun a => π (nw_hd N a) - π (nw_tl N a))
    have e1 : nw_tl N (24 + fr) = 2 * fr := by unfold nw_tl; rw [if_neg (by omega)]; omega
    have e2 : nw_hd N (24 + fr) = 2 * fr + 1 := by unfold nw_hd; rw [if_neg (by omega)]; omega
    have e3 : nw_tl N (24 + to) = 2 * to := by unfold nw_tl; rw [if_neg (by omega)]; omega
    have e4 : nw_hd N (24 + to) = 2 * to + 1 := by unfold nw_hd; rw [if_neg (by omega)]; omega
    rw [e1, e2, e3, e4] at hS
    show fl_S 34 (fun a => (nw_ab fr to k x a : Int) * (π (nw_hd N a) - π (nw_tl N a))) = _
    rw [hS]
    have hF' : fl_S 34 (fun a => (x a : Int) * (π (nw_hd N a) - π (nw_tl N a))) = (k : Int) * (π (2 * to) - π (2 * fr + 1)) := hF
    rw [hF', Int.mul_sub, Int.mul_sub, Int.mul_sub, Int.mul_sub]
    omega
/-- the reference's flow uses neither an edge into the first node nor one out of the last -/
theorem nw_BtoA (hW : nw_W N) (hfr : fr < nw_n N) (hto : to < nw_n N) (hne : fr ≠ to) {y : Nat → Nat} {k : Nat} {π : Nat → Int} (h : nw_G (nw_tl N) (nw_hd N) (nw_cc N) (nw_uB N fr to ap) (2 * fr) (2 * to + 1) k y π) : k ≤ 24 ∧ ∃ x, nw_fe2 (nw_tl N) (nw_hd N) (nw_uA N fr to ap) (2 * fr + 1) (2 * to) (k : Int) x ∧ nw_co (nw_cc N) x = nw_co (nw_cc N) y := by
  have hn := hW.n
  obtain ⟨h1, h2, h3, h4, h5⟩ := h
  have hedge : ∀ a, a < 24 → y a ≠ 0 → a < nw_m N ∧ nw_us N a = true := fun a ha hy => by
    have := h1 a (by omega)
    unfold nw_uB at this
    rw [if_pos ha] at this
    by_cases c : a < nw_m N ∧ nw_us N a = true
    · exact c
    · rw [if_neg c] at this; omega
  have hpi : ∀ a, a < 24 → y a ≠ 0 → (nw_l N a : Int) + π (2 * nw_t N a + 1) - π (2 * nw_e N a) ≤ 0 ∧ nw_t N a < 10 ∧ nw_e N a < 10 ∧ 1 ≤ nw_l N a := fun a ha hy => by
    have c := hedge a ha hy
    have hb := hW.e c.1
    have := (h3 a (by omega)).2 (by show 0 < (y a : Int); omega)
    have e1 : nw_cc N a = nw_l N a := by unfold nw_cc; rw [if_pos c]
    have e2 : nw_tl N a = 2 * nw_t N a + 1 := by unfold nw_tl; rw [if_pos ha]
    have e3 : nw_hd N a = 2 * nw_e N a := by unfold nw_hd; rw [if_pos ha]
    rw [e2, e3] at this
    have this' : (nw_cc N a : Int) + π (2 * nw_t N a + 1) - π (2 * nw_e N a) ≤ 0 := this
    rw [e1] at this'
    exact ⟨this', hb.1, hb.2.1, hb.2.2.2.2.2.1⟩
  have zin : ∀ a, a < 24 → nw_e N a = fr → y a = 0 := fun a ha he => by
    by_cases c : y a = 0
    · exact c
    · obtain ⟨p1, p2, p3, p4⟩ := hpi a ha c
      have := (h5 (2 * nw_t N a + 1) (by omega)).1
      rw [he, h4] at p1
      omega
  have zout : ∀ a, a < 24 → nw_t N a = to → y a = 0 := fun a ha he => by
    by_cases c : y a = 0
    · exact c
    · obtain ⟨p1, p2, p3, p4⟩ := hpi a ha c
      have := (h5 (2 * nw_e N a) (by omega)).2
      rw [he] at p1
      omega
  have hyf : y (24 + fr) = k := by
    have hF := h2 (fun p => if p = 2 * fr then 1 else 0)
    rw [nw_S_at (k := 24 + fr) (v := -(y (24 + fr) : Int)) (by omega) (fun a ha => ?_)] at hF
    · rw [if_neg (by omega), if_pos rfl] at hF
      have e : (k : Int) * ((0 : Int) - 1) = -(k : Int) := by omega
      rw [e] at hF
      omega
    · unfold nw_tl nw_hd
      dsimp only
      by_cases c : a < 24
      · rw [if_pos c, if_pos c, if_neg (show ¬ 2 * nw_t N a + 1 = 2 * fr by omega), if_neg (show ¬ a = 24 + fr by omega)]
        by_cases c2 : nw_e N a = fr
        · rw [zin a c c2]; simp
        · rw [if_neg (by omega)]; simp
      · rw [if_neg c, if_neg c, if_neg (show ¬ 2 * (a - 24) + 1 = 2 * fr by omega)]
        by_cases c2 : a = 24 + fr
        · subst c2
          rw [if_pos (by omega), if_pos rfl]; omega
        · rw [if_neg (by omega), if_neg c2]; omega
  have hyt : y (24 + to) = k := by
    have hF := h2 (fun p => if p = 2 * to + 1 then 1 else 0)
    rw [nw_S_at (k := 24 + to) (v := (y (24 + to) : Int)) (by omega) (fun a ha => ?_)] at hF
    · rw [if_pos rfl, if_neg (by omega)] at hF
      have e : (k : Int) * ((1 : Int) - 0) = (k : Int) := by omega
      rw [e] at hF
      omega
    · unfold nw_tl nw_hd
      dsimp only
      by_cases c : a < 24
      · rw [if_pos c, if_pos c, if_neg (show ¬ 2 * nw_e N a = 2 * to + 1 by omega), if_neg (show ¬ a = 24 + to by omega)]
        by_cases c2 : nw_t N a = to
        · rw [zout a c c2]; simp
        · rw [if_neg (by omega)]; simp
      · rw [if_neg c, if_neg c, if_neg (show ¬ 2 * (a - 24) = 2 * to + 1 by omega)]
        by_cases c2 : a = 24 + to
        · subst c2
          rw [if_pos (by omega), if_pos rfl]; omega
        · rw [if_neg (by omega), if_neg c2]; omega
  have hk : k ≤ 24 := by
    have := h1 (24 + fr) (by omega)
    unfold nw_uB at this
    rw [if_neg (by omega), if_neg (by omega), if_neg (by omega), hyf] at this
    exact this
  refine ⟨hk, fun a => if a = 24 + fr ∨ a = 24 + to then 0 else y a, ?_, ?_⟩
  · have hyab : y = nw_ab fr to k (fun a => if a = 24 + fr ∨ a = 24 + to then 0 else y a) := by
      funext a
      unfold nw_ab
      by_cases c : a = 24 + fr ∨ a = 24 + to
      · rw [if_pos c]
        rcases c with rfl | rfl
        · exact hyf
        · exact hyt
      · rw [if_neg c]
        dsimp only
        rw [if_neg c]
    refine ⟨fun a ha => ?_, fun π => ?_⟩
    · have hc := h1 a ha
      unfold nw_uA
      unfold nw_uB at hc
      dsimp only
      by_cases c : a < 24
      · rw [if_neg (by omega), if_pos c]
        rw [if_pos c] at hc
        exact hc
      · rw [if_neg c] at hc
        rw [if_neg c]
        by_cases c2 : a = 24 + fr ∨ a = 24 + to
        · rw [if_pos c2, if_pos c2]; exact Nat.le_refl _
        · rw [if_neg c2, if_neg c2]
          by_cases c3 : nw_n N ≤ a - 24
          · rw [if_pos c3] at hc; omega
          · rw [if_neg c3] at hc
            by_cases c4 : ap = true
            · rw [if_pos ⟨c4, by omega, by omega⟩] at hc
              rw [if_pos c4]; exact hc
            · rw [if_neg (fun h => c4 h.1)] at hc
              rw [if_neg c4]; exact hc
    · have hF := h2 π
      have hS := nw_ab_sum (by omega) (by omega) hne (k := k) (x := fun a => if a = 24 + fr ∨ a = 24 + to then 0 else y a) (if_pos (Or.inl rfl)) (if_pos (Or.inr rfl)) (fun a => π (nw_hd N a) - π (nw_tl N a))
      rw [← hyab] at hS
      have e1 : nw_tl N (24 + fr) = 2 * fr := by unfold nw_tl; rw [if_neg (by omega)]; omega
      have e2 : nw_hd N (24 + fr) = 2 * fr + 1 := by unfold nw_hd; rw [if_neg (by omega)]; omega
      have e3 : nw_tl N (24 + to) = 2 * to := by unfold nw_tl; rw [if_neg (by omega)]; omega
      have e4 : nw_hd N (24 + to) = 2 * to + 1 := by unfold nw_hd; rw [if_neg (by omega)]; omega
      rw [e1, e2, e3, e4] at hS
      have hF' : fl_S 34 (fun a => (y a : Int) * (π (nw_hd N a) - π (nw_tl N a))) = (k : Int) * (π (2 * to + 1) - π (2 * fr)) := hF
      rw [hF', Int.mul_sub, Int.mul_sub, Int.mul_sub] at hS
      rw [Int.mul_sub]
      (try dsimp only at hS)
      (try dsimp only)
      omega
  · unfold nw_co
    refine fl_S_congr (fun a _ => ?_)
    dsimp only
    split
    · rename_i h
      rw [nw_cc0 hW (by omega)]
      simp
    · rfl
theorem nw_dualG {tl hd c u x y : Nat → Nat} {s t k : Nat} {π : Nat → Int} (hG : nw_G tl hd c u s t k x π) (hy : nw_fe2 tl hd u s t (k : Int) y) : nw_co c x ≤ nw_co c y := by
  have hd := fl_dual hG.2.1 hy.2 hG.2.2.1 (fun a ha => ⟨by show 0 ≤ (y a : Int); omega, by have := hy.1 a ha; show (y a : Int) ≤ (u a : Int); omega⟩)
  have e : ((k : Int) - (k : Int)) = 0 := by omega
  rw [e, Int.zero_mul, Int.add_zero] at hd
  exact hd
/-- equal costs -/
theorem nw_same2 (hW : nw_W N) (hfr : fr < nw_n N) (hto : to < nw_n N) (hne : fr ≠ to) {x y : Nat → Nat} {k : Nat} {π π' : Nat → Int} (hA : nw_G (nw_tl N) (nw_hd N) (nw_cc N) (nw_uA N fr to ap) (2 * fr + 1) (2 * to) k x π) (hB : nw_G (nw_tl N) (nw_hd N) (nw_cc N) (nw_uB N fr to ap) (2 * fr) (2 * to + 1) k y π') : nw_co (nw_cc N) x = nw_co (nw_cc N) y := by
  obtain ⟨hk, x', h1, h2⟩ := nw_BtoA hW hfr hto hne hB
  have e1 := nw_dualG hA h1
  have e2 := nw_dualG hB (nw_AtoB hW hfr hto hne hk ⟨hA.1, hA.2.1⟩)
  rw [nw_ab_co hW] at e2
  omega
theorem nw_co_b (hW : nw_W N) {x : Nat → Nat} (h : ∀ a, a < 34 → x a ≤ nw_uA N fr to ap a) : 0 ≤ nw_co (nw_cc N) x ∧ nw_co (nw_cc N) x ≤ 24000 := by
  have hn := hW.n
  refine ⟨fl_S_nonneg (fun a _ => Int.mul_nonneg (by omega) (by omega)), ?_⟩
  have h1 : nw_co (nw_cc N) x ≤ fl_S 34 (fun a => if a < 24 then 1000 else 0) := by
    refine nw_S_le2 (fun a ha => ?_)
    have hc := h a ha
    unfold nw_uA at hc
    by_cases c : a < 24
    · rw [if_pos c] at hc ⊢
      by_cases c2 : a < nw_m N ∧ nw_us N a = true
      · rw [if_pos c2] at hc
        have hb := hW.e c2.1
        have e : nw_cc N a ≤ 1000 := by unfold nw_cc; rw [if_pos c2]; omega
        have h3 : nw_cc N a * x a ≤ 1000 * 1 := Nat.mul_le_mul e hc
        have h4 : ((nw_cc N a * x a : Nat) : Int) = (nw_cc N a : Int) * (x a : Int) := Int.natCast_mul _ _
        omega
      · rw [if_neg c2] at hc
        have : x a = 0 := by omega
        rw [this]; simp
    · rw [if_neg c, nw_cc0 hW (by omega)]; simp
  have h2 : fl_S 34 (fun a => if a < 24 then 1000 else 0) = 24000 := by decide
  omega
end NWM
