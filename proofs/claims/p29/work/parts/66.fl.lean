/-! ===== what flows cost, told by the distances ===== -/
section NXFL
variable {N : nw_N} {i j : Nat}
theorem nx_cl (hW : nw_W N) {x : Nat → Nat} (hx : nw_ds N j x) {e : Nat} (he : e < nw_m N) (hu : nw_us N e = true) : x (nw_t N e) ≤ nw_l N e + x (nw_e N e) := by
  have hl := hW.e he
  by_cases c : x (nw_e N e) < 1000000000
  · obtain ⟨h, hR⟩ := (hx.1 (nw_e N e) (by omega)).2 c
    exact hx.2 (nw_t N e) _ _ (by omega) (bf_R.step (show nw_arc N (nw_t N e) (nw_l N e) (nw_e N e) from ⟨e, he, hu, rfl, rfl, rfl⟩) hR)
  · have := (hx.1 (nw_t N e) (by omega)).1
    omega
theorem nx_uAm {ap : Bool} {a : Nat} : nw_uA N i j ap a ≤ nw_uA N i j false a := by
  cases ap
  · exact Nat.le_refl _
  · unfold nw_uA
    by_cases c : a < 24
    · rw [if_pos c, if_pos c]; exact Nat.le_refl _
    · rw [if_neg c, if_neg c]
      by_cases c2 : a = 24 + i ∨ a = 24 + j
      · rw [if_pos c2, if_pos c2]; exact Nat.le_refl _
      · rw [if_neg c2, if_neg c2, if_pos rfl, if_neg (by decide)]; omega
theorem nx_fem {ap : Bool} {val : Int} {y : Nat → Nat} {s t : Nat} (h : nw_fe2 (nw_tl N) (nw_hd N) (nw_uA N i j ap) s t val y) : nw_fe2 (nw_tl N) (nw_hd N) (nw_uA N i j false) s t val y :=
  ⟨fun a ha => Nat.le_trans (h.1 a ha) nx_uAm, h.2⟩
/-- no flow is cheaper than so many distances -/
theorem nx_pot (hW : nw_W N) (hj : j < 10) {ap : Bool} {x : Nat → Nat} (hx : nw_ds N j x) {val : Int} {y : Nat → Nat} (hy : nw_fe2 (nw_tl N) (nw_hd N) (nw_uA N i j ap) (2 * i + 1) (2 * j) val y) : val * (x i : Int) ≤ nw_co (nw_cc N) y := by
  have h := hy.2 (fun p => -(x (p / 2) : Int))
  have h1 : (fun p => -(x (p / 2) : Int)) (2 * j) - (fun p => -(x (p / 2) : Int)) (2 * i + 1) = (x i : Int) := by
    show -(x (2 * j / 2) : Int) - -(x ((2 * i + 1) / 2) : Int) = (x i : Int)
    rw [show 2 * j / 2 = j by omega, show (2 * i + 1) / 2 = i by omega, nx_ds0 hx hj]
    omega
  rw [h1] at h
  rw [← h]
  refine nw_S_le2 (fun a ha => ?_)
  show (y a : Int) * (-(x (nw_hd N a / 2) : Int) - -(x (nw_tl N a / 2) : Int)) ≤ (nw_cc N a : Int) * (y a : Int)
  have hc := hy.1 a ha
  by_cases c0 : y a = 0
  · rw [c0]; simp
  by_cases c : a < 24
  · unfold nw_uA at hc
    rw [if_pos c] at hc
    by_cases c2 : a < nw_m N ∧ nw_us N a = true
    · rw [if_pos c2] at hc
      have hy1 : y a = 1 := by omega
      have h2 := nx_cl hW hx c2.1 c2.2
      have e1 : nw_hd N a / 2 = nw_e N a := by unfold nw_hd; rw [if_pos c]; omega
      have e2 : nw_tl N a / 2 = nw_t N a := by unfold nw_tl; rw [if_pos c]; omega
      have e3 : nw_cc N a = nw_l N a := by unfold nw_cc; rw [if_pos c2]
      rw [e1, e2, e3, hy1]
      omega
    · rw [if_neg c2] at hc; omega
  · have e1 : nw_hd N a / 2 = a - 24 := by unfold nw_hd; rw [if_neg c]; omega
    have e2 : nw_tl N a / 2 = a - 24 := by unfold nw_tl; rw [if_neg c]; omega
    rw [e1, e2, nw_cc0 hW (by omega), show -(x (a - 24) : Int) - -(x (a - 24) : Int) = 0 by omega]
    simp
/-! no flow is greater than the edges out of its beginning are many -/
theorem nx_Sge {m : Nat} {f : Nat → Int} (h : ∀ a, m ≤ a → f a ≤ 0) : ∀ d : Nat, fl_S (m + d) f ≤ fl_S m f := by
  intro d
  induction d with
  | zero => exact Int.le_refl _
  | succ d ih =>
    show fl_S (m + d) f + f (m + d) ≤ _
    have := h (m + d) (by omega)
    omega
theorem nx_Sc {q : Nat → Bool} : ∀ m : Nat, fl_S m (fun a => if q a = true then 1 else 0) = ((List.range' 0 m).countP q : Int) := by
  intro m
  induction m with
  | zero => rfl
  | succ m ih =>
    rw [List.range'_1_concat, List.countP_append, Int.natCast_add, ← ih]
    show fl_S m _ + (if q m = true then 1 else 0) = _
    congr 1
    rw [Nat.zero_add, List.countP_cons, List.countP_nil]
    by_cases c : q m = true
    · rw [if_pos c, if_pos c]; rfl
    · rw [if_neg c, if_neg c]; rfl
theorem nx_cut (hW : nw_W N) (hi : i < 10) {ap : Bool} {val : Int} {y : Nat → Nat} (hy : nw_fe2 (nw_tl N) (nw_hd N) (nw_uA N i j ap) (2 * i + 1) (2 * j) val y) : val ≤ (nw_pv N 10 : Int) := by
  have hn := hW.n
  have h := hy.2 (fun p => if p = 2 * i + 1 then 0 else 1)
  have h1 : (fun p => if p = 2 * i + 1 then (0 : Int) else 1) (2 * j) - (fun p => if p = 2 * i + 1 then (0 : Int) else 1) (2 * i + 1) = 1 := by
    show (if 2 * j = 2 * i + 1 then (0 : Int) else 1) - (if 2 * i + 1 = 2 * i + 1 then (0 : Int) else 1) = 1
    rw [if_neg (by omega), if_pos rfl]; rfl
  rw [h1, Int.mul_one] at h
  rw [← h]
  have h2 : fl_S 34 (fun a => (y a : Int) * ((fun p => if p = 2 * i + 1 then (0 : Int) else 1) (nw_hd N a) - (fun p => if p = 2 * i + 1 then (0 : Int) else 1) (nw_tl N a))) ≤ fl_S 34 (fun a => if a < nw_m N then (if (nw_t N a == i && nw_us N a) = true then 1 else 0) else 0) := by
    refine nw_S_le2 (fun a ha => ?_)
    show (y a : Int) * ((if nw_hd N a = 2 * i + 1 then (0 : Int) else 1) - (if nw_tl N a = 2 * i + 1 then (0 : Int) else 1)) ≤ _
    have hc := hy.1 a ha
    by_cases c0 : y a = 0
    · rw [c0]; simp; split <;> (try split) <;> omega
    by_cases c : a < 24
    · unfold nw_uA at hc
      rw [if_pos c] at hc
      by_cases c2 : a < nw_m N ∧ nw_us N a = true
      · rw [if_pos c2] at hc
        have hy1 : y a = 1 := by omega
        have e1 : nw_hd N a = 2 * nw_e N a := by unfold nw_hd; rw [if_pos c]
        have e2 : nw_tl N a = 2 * nw_t N a + 1 := by unfold nw_tl; rw [if_pos c]
        rw [e1, e2, hy1, if_neg (show ¬ 2 * nw_e N a = 2 * i + 1 by omega), if_pos c2.1, c2.2]
        by_cases c3 : nw_t N a = i
        · rw [c3, if_pos rfl, if_pos (by simp)]; decide
        · rw [if_neg (show ¬ 2 * nw_t N a + 1 = 2 * i + 1 by omega), if_neg (by simp [c3])]; decide
      · rw [if_neg c2] at hc; omega
    · have e2 : nw_tl N a = 2 * (a - 24) := by unfold nw_tl; rw [if_neg c]
      rw [e2, if_neg (show ¬ 2 * (a - 24) = 2 * i + 1 by omega), if_neg (show ¬ a < nw_m N by omega)]
      split
      · omega
      · omega
  have h3 : fl_S 34 (fun a => if a < nw_m N then (if (nw_t N a == i && nw_us N a) = true then (1 : Int) else 0) else 0) ≤ fl_S (nw_m N) (fun a => if a < nw_m N then (if (nw_t N a == i && nw_us N a) = true then (1 : Int) else 0) else 0) := by
    have := nx_Sge (m := nw_m N) (f := fun a => if a < nw_m N then (if (nw_t N a == i && nw_us N a) = true then (1 : Int) else 0) else 0) (fun a ha => by
      show (if a < nw_m N then _ else _) ≤ (0 : Int)
      rw [if_neg (by omega)]; exact Int.le_refl _) (34 - nw_m N)
    rw [show nw_m N + (34 - nw_m N) = 34 by omega] at this
    exact this
  have h4 : fl_S (nw_m N) (fun a => if a < nw_m N then (if (nw_t N a == i && nw_us N a) = true then (1 : Int) else 0) else 0) = ((nw_oe N i).length : Int) := by
    rw [fl_S_congr (g := fun a => if (nw_t N a == i && nw_us N a) = true then (1 : Int) else 0) (fun a ha => if_pos ha), nx_Sc (q := fun a => nw_t N a == i && nw_us N a), nx_oel]
  have h5 := nw_pv_s (N := N) (v := i)
  have h6 := nw_pv_mono (N := N) (show i + 1 ≤ 10 by omega)
  refine Int.le_trans h2 (Int.le_trans h3 ?_)
  rw [h4]
  omega
/-! a shortest path is a flow -/
def nx_ad (z : Nat → Nat) (k : Nat) : Nat → Nat := fun a => if a = k then z a + 1 else z a
theorem nx_adS {n k : Nat} (hk : k < n) (z : Nat → Nat) (D : Nat → Int) : fl_S n (fun a => (nx_ad z k a : Int) * D a) = fl_S n (fun a => (z a : Int) * D a) + D k := by
  rw [← fl_S_one (f := fun a => (z a : Int) * D a) (v := D k) hk]
  refine fl_S_congr (fun a ha => ?_)
  show ((if a = k then z a + 1 else z a : Nat) : Int) * D a = if a = k then (z a : Int) * D a + D k else (z a : Int) * D a
  by_cases c : a = k
  · rw [if_pos c, if_pos c, c, Int.natCast_add, Int.add_mul]
    simp
  · rw [if_neg c, if_neg c]
theorem nx_adC {c z : Nat → Nat} {k : Nat} (hk : k < 34) : nw_co c (nx_ad z k) = nw_co c z + (c k : Int) := by
  unfold nw_co
  rw [fl_S_congr (g := fun a => (nx_ad z k a : Int) * (c a : Int)) (fun a _ => Int.mul_comm _ _), nx_adS hk, fl_S_congr (f := fun a => (c a : Int) * (z a : Int)) (g := fun a => (z a : Int) * (c a : Int)) (fun a _ => Int.mul_comm _ _)]
theorem nx_spf (hW : nw_W N) (hj : j < 10) {x : Nat → Nat} (hx : nw_ds N j x) : ∀ d v : Nat, x v ≤ d → v < 10 → x v < 1000000000 → v ≠ j → ∃ y : Nat → Nat, (∀ a, y a ≤ 1) ∧ (∀ a, 0 < y a → (a < 24 ∧ a < nw_m N ∧ nw_us N a = true ∧ x (nw_t N a) ≤ x v) ∨ (∃ w, a = 24 + w ∧ w < 10 ∧ w ≠ j ∧ x w < x v)) ∧ fl_F 34 (nw_tl N) (nw_hd N) (2 * v + 1) (2 * j) (fun a => (y a : Int)) 1 ∧ nw_co (nw_cc N) y = (x v : Int) := by
  intro d
  have hn := hW.n
  induction d with
  | zero =>
    intro v h1 hv h2 h3
    obtain ⟨e, he, hu, ht, hl⟩ := nx_step hW hx hv h2 h3
    have := hW.e he
    omega
  | succ d ih =>
    intro v h1 hv h2 h3
    obtain ⟨e, he, hu, ht, hl⟩ := nx_step hW hx hv h2 h3
    have hE := hW.e he
    have e24 : e < 24 := by omega
    have k1 : nw_hd N e = 2 * nw_e N e := by unfold nw_hd; rw [if_pos e24]
    have k2 : nw_tl N e = 2 * v + 1 := by unfold nw_tl; rw [if_pos e24, ht]
    have k3 : nw_cc N e = nw_l N e := by unfold nw_cc; rw [if_pos ⟨he, hu⟩]
    by_cases c : nw_e N e = j
    · refine ⟨nx_ad (fun _ => 0) e, fun a => ?_, fun a ha => ?_, fun π => ?_, ?_⟩
      · show (if a = e then 0 + 1 else 0) ≤ 1
        split <;> omega
      · by_cases ca : a = e
        · subst ca; exact Or.inl ⟨e24, he, hu, by rw [ht]; exact Nat.le_refl _⟩
        · have ha : 0 < (if a = e then 0 + 1 else 0) := ha
          rw [if_neg ca] at ha; omega
      · rw [nx_adS (show e < 34 by omega), fl_S_congr (g := fun _ => 0) (fun a _ => by simp), fl_S_zero, k1, k2, c]
        omega
      · rw [nx_adC (show e < 34 by omega), nw_co0, k3]
        have := nx_ds0 hx hj
        rw [c] at hl
        omega
    · obtain ⟨y, y1, y2, y3, y4⟩ := ih (nw_e N e) (by omega) (by omega) (by omega) c
      have hlt : x (nw_e N e) < x v := by omega
      have z1 : y e = 0 := by
        by_cases cz : 0 < y e
        · rcases y2 e cz with ⟨_, _, _, h⟩ | ⟨w, h, _⟩
          · rw [ht] at h; omega
          · omega
        · omega
      have z2 : y (24 + nw_e N e) = 0 := by
        by_cases cz : 0 < y (24 + nw_e N e)
        · rcases y2 _ cz with ⟨h, _⟩ | ⟨w, h, _, _, h4⟩
          · omega
          · have : w = nw_e N e := by omega
            rw [this] at h4; omega
        · omega
      have hval : ∀ a, nx_ad (nx_ad y (24 + nw_e N e)) e a = if a = e then 1 else if a = 24 + nw_e N e then 1 else y a := fun a => by
        unfold nx_ad
        by_cases ca : a = e
        · rw [if_pos ca, if_pos ca, if_neg (by omega), ca, z1]
        · rw [if_neg ca, if_neg ca]
          by_cases cb : a = 24 + nw_e N e
          · rw [if_pos cb, if_pos cb, cb, z2]
          · rw [if_neg cb, if_neg cb]
      have k4 : nw_hd N (24 + nw_e N e) = 2 * nw_e N e + 1 := by unfold nw_hd; rw [if_neg (by omega)]; omega
      have k5 : nw_tl N (24 + nw_e N e) = 2 * nw_e N e := by unfold nw_tl; rw [if_neg (by omega)]; omega
      refine ⟨nx_ad (nx_ad y (24 + nw_e N e)) e, fun a => ?_, fun a ha => ?_, fun π => ?_, ?_⟩
      · rw [hval]
        have := y1 a
        split
        · omega
        · split <;> omega
      · rw [hval] at ha
        by_cases ca : a = e
        · subst ca; exact Or.inl ⟨e24, he, hu, by rw [ht]; exact Nat.le_refl _⟩
        · rw [if_neg ca] at ha
          by_cases cb : a = 24 + nw_e N e
          · exact Or.inr ⟨nw_e N e, cb, by omega, c, hlt⟩
          · rw [if_neg cb] at ha
            rcases y2 a ha with ⟨g1, g2, g3, g4⟩ | ⟨w, g1, g2, g3, g4⟩
            · exact Or.inl ⟨g1, g2, g3, by omega⟩
            · exact Or.inr ⟨w, g1, g2, g3, by omega⟩
      · have h5 := y3 π
        rw [nx_adS (show e < 34 by omega), nx_adS (show 24 + nw_e N e < 34 by omega), h5, k1, k2, k4, k5]
        omega
      · rw [nx_adC (show e < 34 by omega), nx_adC (show 24 + nw_e N e < 34 by omega), y4, k3, nw_cc0 hW (by omega)]
        omega
theorem nx_one (hW : nw_W N) (hi : i < 10) (hj : j < 10) (hne : i ≠ j) {x : Nat → Nat} (hx : nw_ds N j x) (hlt : x i < 1000000000) (ap : Bool) : ∃ y, nw_fe2 (nw_tl N) (nw_hd N) (nw_uA N i j ap) (2 * i + 1) (2 * j) ((1 : Nat) : Int) y ∧ nw_co (nw_cc N) y = (x i : Int) := by
  obtain ⟨y, y1, y2, y3, y4⟩ := nx_spf hW hj hx (x i) i (Nat.le_refl _) hi hlt hne
  refine ⟨y, ⟨fun a ha => ?_, y3⟩, y4⟩
  by_cases c0 : 0 < y a
  · have h1 := y1 a
    unfold nw_uA
    rcases y2 a c0 with ⟨g1, g2, g3, -⟩ | ⟨w, g1, g2, g3, g4⟩
    · rw [if_pos g1, if_pos ⟨g2, g3⟩]; exact h1
    · rw [if_neg (by omega), if_neg (by
        rintro (h | h)
        · have : w = i := by omega
          rw [this] at g4; omega
        · omega)]
      split <;> omega
  · omega
/-! the first allowed walk is no shorter than the distance -/
theorem nx_awge (hW : nw_W N) (hj : j < 10) {x : Nat → Nat} (hx : nw_ds N j x) {D : Nat → Nat} : ∀ (q : List Nat) (e : Nat), nw_aw N j D e q → x (nw_t N e) ≤ D e := by
  intro q
  induction q with
  | nil =>
    intro e h
    obtain ⟨h1, h2, h3, h4⟩ := h
    have := nx_cl hW hx h1 h2
    rw [h3, nx_ds0 hx hj] at this
    omega
  | cons f q ih =>
    intro e h
    obtain ⟨h1, h2, h3, h4, h5, h6, h7⟩ := h
    have g1 := nx_cl hW hx h1 h2
    have g2 := ih f h7
    have g3 : nw_t N f = nw_e N e := h5.1.2.2.1
    rw [g3] at g2
    omega
theorem nx_alwge (hW : nw_W N) (hj : j < 10) (hne : i ≠ j) {x : Nat → Nat} (hx : nw_ds N j x) {L : Nat} {w : List Nat} (h : nx_alw N i j L w) (hL : L < 1000000000) : x i ≤ L ∧ 0 < w.length := by
  rcases h with ⟨h1, -⟩ | ⟨-, D, hD, h2⟩
  · exact absurd h1 hne
  · rcases h2 with ⟨-, h3, -⟩ | ⟨b, q, h3, h4, h5, h6⟩
    · omega
    · have h7 := nx_awge hW hj hx q b h4
      have h8 : nw_t N b = i := h3.1.2
      rw [h8] at h7
      exact ⟨by omega, by rw [h6, List.length_cons]; omega⟩
end NXFL
