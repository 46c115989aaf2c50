/-! ===== areSetsSo ===== -/
section NXSS
variable {N : nw_N} {p : nx_Pic} {i j : Nat}
theorem nx_co_yes {ap : Bool} {T l : Nat} {a : Int32} (hT : ∀ i', i' ≤ T → ∃ c, nw_OA N i j ap i' c) (hl : l ≤ T) (h : nx_co N i j ap l a) : ∃ L : Nat, L < 1000000000 ∧ nw_OA N i j ap l (L : Int) ∧ a = nI L := by
  rcases h with h | ⟨⟨k', h1, h2⟩, -⟩
  · exact h
  · obtain ⟨c, hc⟩ := hT T (Nat.le_refl _)
    have := nx_OA_NA hc h2
    omega
theorem nx_co_no {ap : Bool} {T l : Nat} {a : Int32} (hT : T = 24 ∨ nw_NA N i j ap T) (hl4 : l ≤ 4) (hl : ¬ l ≤ T) (h : nx_co N i j ap l a) : a = (-99998 : Int32) := by
  rcases h with ⟨L, h1, h2, h3⟩ | ⟨-, h⟩
  · rcases hT with hT | hT
    · omega
    · have := nx_OA_NA h2 hT
      omega
  · exact h
theorem nx_OAb (hW : nw_W N) (hj : j < 10) {ap : Bool} {x : Nat → Nat} (hx : nw_ds N j x) {l : Nat} {c : Int} (h : nw_OA N i j ap l c) : (l : Int) * (x i : Int) ≤ c ∧ c ≤ 24000 := by
  obtain ⟨y, π, hG, rfl⟩ := h
  exact ⟨nx_pot hW hj hx ⟨hG.1, hG.2.1⟩, (nw_co_b hW hG.1).2⟩
theorem nx_OA_le {l : Nat} {c c' : Int} (h : nw_OA N i j false l c) (h' : nw_OA N i j true l c') : c ≤ c' := by
  obtain ⟨y, π, hG, rfl⟩ := h
  obtain ⟨y', π', hG', rfl⟩ := h'
  exact nw_dualG hG (nx_fem ⟨hG'.1, hG'.2.1⟩)
theorem nx_OA1 (hW : nw_W N) (hi : i < 10) (hj : j < 10) (hne : i ≠ j) {ap : Bool} {x : Nat → Nat} (hx : nw_ds N j x) {c : Int} (h : nw_OA N i j ap 1 c) : c = (x i : Int) ∧ x i < 1000000000 := by
  have h1 := nx_OAb hW hj hx h
  have hlt : x i < 1000000000 := by omega
  refine ⟨?_, hlt⟩
  obtain ⟨y, y1, y2⟩ := nx_one hW hi hj hne hx hlt ap
  obtain ⟨z, π, hG, hz⟩ := h
  have h2 := nw_dualG hG y1
  omega
theorem nx_Tpos (hW : nw_W N) (hi : i < 10) (hj : j < 10) (hne : i ≠ j) {ap : Bool} {x : Nat → Nat} (hx : nw_ds N j x) {T : Nat} (hT : ∀ i', i' ≤ T → ∃ c, nw_OA N i j ap i' c) (hT' : T = 24 ∨ nw_NA N i j ap T) : 0 < T ↔ x i < 1000000000 := by
  constructor
  · intro h
    obtain ⟨c, hc⟩ := hT 1 h
    exact (nx_OA1 hW hi hj hne hx hc).2
  · intro h
    obtain ⟨y, y1, y2⟩ := nx_one hW hi hj hne hx h ap
    rcases hT' with hT' | hT'
    · omega
    · have := hT' y _ y1
      omega
theorem nx_ssl {x : Nat → Nat} {T0 T1 : Nat} {a6 : Int32} (hW : nw_W p.1) (hi : i < nw_n p.1) (hj : j < nw_n p.1) (hne : i ≠ j) (hx : nw_ds p.1 j x) (h01 : T1 ≤ T0) (h24 : T0 ≤ 24)
    (hA : ∀ i', i' ≤ T0 → ∃ c, nw_OA p.1 i j false i' c) (hA' : T0 = 24 ∨ nw_NA p.1 i j false T0) (hB : ∀ i', i' ≤ T1 → ∃ c, nw_OA p.1 i j true i' c) (hB' : T1 = 24 ∨ nw_NA p.1 i j true T1) :
    ∀ (m l n : Nat) (σ : jv_S), l + m = 5 → m < n → 1 ≤ l → nx_H p σ → ∃ σ', f_L_areSetsSo_lp105 (nI i) (nI j) (nI T0) (nI T1) (nx_far (x i)) a6 n true (nI l) σ = some (true, nI 5, σ') ∧ nx_H p σ' := by
  intro m
  have hn := hW.n
  have hP0 := nx_Tpos hW (show i < 10 by omega) (show j < 10 by omega) hne hx hA hA'
  have hP1 := nx_Tpos hW (show i < 10 by omega) (show j < 10 by omega) hne hx hB hB'
  induction m with
  | zero =>
    intro l n σ hl hn h1 h
    obtain ⟨f, rfl⟩ := nw_f0 hn
    have : l = 5 := by omega
    subst this
    refine ⟨σ, ?_, h⟩
    rw [f_L_areSetsSo_lp105, if_pos (show (5 : Int32) ≤ nI 5 from nI_le (a := 5) (by omega) (by omega))]
  | succ m ih =>
    intro l n σ hl hn h1 h
    obtain ⟨f, rfl, hg⟩ := nw_fe hn
    obtain ⟨q22, r1, D1⟩ := nx_A4 h hi hj hne h1 (show l ≤ 4 by omega) false
    obtain ⟨τ, g1, g2⟩ := D1 σ h
    have g1 : f_L_asks σ (4 : Int32) (nI i) (nI j) (nI l) = some (q22, τ) := g1
    obtain ⟨q23, r2, D2⟩ := nx_A4 g2 hi hj hne h1 (show l ≤ 4 by omega) true
    obtain ⟨τ2, k1, k2⟩ := D2 τ g2
    have k1 : f_L_asks τ (5 : Int32) (nI i) (nI j) (nI l) = some (q23, τ2) := k1
    obtain ⟨σ', m1, m2⟩ := ih (l + 1) f τ2 (by omega) hg (by omega) k2
    refine ⟨σ', ?_, m2⟩
    rw [← m1, f_L_areSetsSo_lp105, if_neg (show ¬ (5 : Int32) ≤ nI l from nI_ge (b := 5) (by omega) (by omega)), if_pos rfl]
    have nn : (-99998 : Int32) < 0 := by decide
    by_cases c1 : l ≤ T1
    · obtain ⟨L0, b1, b2, rfl⟩ := nx_co_yes hA (by omega) r1
      obtain ⟨L1, d1, d2, rfl⟩ := nx_co_yes hB c1 r2
      have hxl : x i < 1000000000 := hP1.mp (by omega)
      have o1 := nx_OAb hW (show j < 10 by omega) hx b2
      have o2 := nx_OA_le b2 d2
      have o3 := nx_OAb hW (show j < 10 by omega) hx d2
      have o4 : l * x i ≤ L0 := by
        have : ((l * x i : Nat) : Int) = (l : Int) * (x i : Int) := Int.natCast_mul _ _
        omega
      have hfar : nx_far (x i) = nI (x i) := by unfold nx_far; rw [if_pos hxl]
      have e1 : ¬ nI L0 < 0 := nI_pos (by omega)
      have e2 : ¬ nI L1 < 0 := nI_pos (by omega)
      have e3 : ¬ nI T0 < nI l := nI_nlt (by omega) (by omega)
      have e4 : ¬ nI T1 < nI l := nI_nlt (by omega) (by omega)
      have e5 : ¬ nI L0 < nI l * nI (x i) := by rw [pk_mul]; exact nI_nlt o4 (by omega)
      have e6 : ¬ nI L1 < nI L0 := nI_nlt (by omega) (by omega)
      rw [hfar]
      by_cases cl : l = 1
      · subst cl
        have u1 := (nx_OA1 hW (show i < 10 by omega) (show j < 10 by omega) hne hx b2).1
        have u2 := (nx_OA1 hW (show i < 10 by omega) (show j < 10 by omega) hne hx d2).1
        have u3 : L0 = x i := by omega
        have u4 : L1 = x i := by omega
        subst u3
        rw [u4] at e2 e6 k1
        simp only [nw_bd, nw_lt, g1, k1, e1, e2, e3, e4, e5, e6, nI_1, ite_self, if_true, if_false]
      · have e7 : (1 : Int32) < nI l := nI_lt (a := 1) (by omega) (by omega)
        simp only [nw_bd, nw_lt, g1, k1, e1, e2, e3, e4, e5, e6, e7, nI_1, if_true, if_false]
    · have hq23 := nx_co_no hB' (by omega) c1 r2
      subst hq23
      have e4 : nI T1 < nI l := nI_lt (by omega) (by omega)
      by_cases c2 : l ≤ T0
      · obtain ⟨L0, b1, b2, rfl⟩ := nx_co_yes hA c2 r1
        have hxl : x i < 1000000000 := hP0.mp (by omega)
        have hT1 := hP1.mpr hxl
        have o1 := nx_OAb hW (show j < 10 by omega) hx b2
        have o4 : l * x i ≤ L0 := by
          have : ((l * x i : Nat) : Int) = (l : Int) * (x i : Int) := Int.natCast_mul _ _
          omega
        have hfar : nx_far (x i) = nI (x i) := by unfold nx_far; rw [if_pos hxl]
        have e1 : ¬ nI L0 < 0 := nI_pos (by omega)
        have e3 : ¬ nI T0 < nI l := nI_nlt (by omega) (by omega)
        have e5 : ¬ nI L0 < nI l * nI (x i) := by rw [pk_mul]; exact nI_nlt o4 (by omega)
        have e7 : (1 : Int32) < nI l := nI_lt (a := 1) (by omega) (by omega)
        rw [hfar]
        simp only [nw_bd, nw_lt, g1, k1, e1, e3, e4, e5, e7, nn, nI_1, if_true, if_false]
      · have hq22 := nx_co_no hA' (by omega) c2 r1
        subst hq22
        have e3 : nI T0 < nI l := nI_lt (by omega) (by omega)
        by_cases cl : l = 1
        · subst cl
          have hxl : ¬ x i < 1000000000 := fun h => by have := hP0.mpr h; omega
          have hfar : nx_far (x i) = (-99998 : Int32) := by unfold nx_far; rw [if_neg hxl]
          rw [hfar]
          simp only [nw_bd, nw_lt, g1, k1, e3, e4, nn, nI_1, ite_self, if_true, if_false]
        · have e7 : (1 : Int32) < nI l := nI_lt (a := 1) (by omega) (by omega)
          simp only [nw_bd, nw_lt, g1, k1, e3, e4, e7, nn, nI_1, if_true, if_false]
theorem nx_ss {σ : jv_S} (h : nx_H p σ) (hi : i < nw_n p.1) (hj : j < nw_n p.1) (hne : i ≠ j) : ∃ σ', f_L_areSetsSo σ (nI i) (nI j) = some (true, σ') ∧ nx_H p σ' := by
  have hW : nw_W p.1 := h.1.1
  have hn := hW.n
  have hi10 : i < 10 := by omega
  have hj10 : j < 10 := by omega
  obtain ⟨T0, τ0, a1, a2, a3, a4, a5⟩ := nx_many h hi hj hne false
  have a1 : f_X7_disjointPaths σ (nI i) (nI j) (0 : Int32) = some (.ok (nI T0), τ0) := a1
  obtain ⟨T1, τ1, b1, b2, b3, b4, b5⟩ := nx_many a2 hi hj hne true
  have b1 : f_X7_disjointPaths τ0 (nI i) (nI j) (1 : Int32) = some (.ok (nI T1), τ1) := b1
  obtain ⟨x, hx, D0⟩ := nx_A0 b2 hi hj (0 : Int32)
  obtain ⟨τ2, c1, c2⟩ := D0 τ1 b2
  have c1 : f_L_asks τ1 (0 : Int32) (nI i) (nI j) (0 : Int32) = some (nx_far (x i), τ2) := c1
  obtain ⟨L, w, hLw, D1⟩ := nx_A1 c2 hi hj (0 : Int32)
  obtain ⟨τ3, d1, d2⟩ := D1 τ2 c2
  have d1 : f_L_asks τ2 (1 : Int32) (nI i) (nI j) (0 : Int32) = some (nx_far L, τ3) := d1
  have hP0 := nx_Tpos hW hi10 hj10 hne hx a4 a5
  have hP1 := nx_Tpos hW hi10 hj10 hne hx b4 b5
  have h01 : T1 ≤ T0 := by
    obtain ⟨c, y, π, hG, -⟩ := b4 T1 (Nat.le_refl _)
    rcases a5 with a5 | a5
    · omega
    · have := a5 y _ (nx_fem ⟨hG.1, hG.2.1⟩)
      omega
  have hpv : T0 ≤ nw_pv p.1 10 := by
    obtain ⟨c, y, π, hG, -⟩ := a4 T0 (Nat.le_refl _)
    have := nx_cut hW hi10 ⟨hG.1, hG.2.1⟩
    omega
  have hpm := nw_pv_le (N := p.1) (v := 10)
  have hus := nx_usable d2
  obtain ⟨τ4, m1, m2⟩ := nx_ssl (a6 := nx_far L) hW hi hj hne hx h01 a3 a4 a5 b4 b5 4 1 5 τ3 rfl (by omega) (by omega) d2
  have m1 : f_L_areSetsSo_lp105 (nI i) (nI j) (nI T0) (nI T1) (nx_far (x i)) (nx_far L) 5 true (1 : Int32) τ3 = some (true, nI 5, τ4) := m1
  have nn : (-99998 : Int32) < 0 := by decide
  have e1 : ¬ nI T0 < nI T1 := nI_nlt h01 (by omega)
  have e2 : ¬ nI (nw_pv p.1 10) < nI T0 := nI_nlt hpv (by omega)
  have hfirst : (if nI T0 < nI T1 then false else (jv_lt (if nI T1 ≤ 0 then false else true) (fun q10 => jv_lt (if nI T0 ≤ 0 then false else true) (fun q12 => if (jv_b q10) = (jv_b q12) then (jv_lt (if nI T0 ≤ 0 then false else true) (fun q15 => jv_lt (if nx_far (x i) < 0 then false else true) (fun q17 => if (jv_b q15) = (jv_b q17) then (if (f_X7_usableEdges τ3) < nI T0 then false else true) else false))) else false)))) = true := by
    rw [hus, if_neg e1]
    by_cases cx : x i < 1000000000
    · have t0 := hP0.mpr cx
      have t1 := hP1.mpr cx
      have hfar : nx_far (x i) = nI (x i) := by unfold nx_far; rw [if_pos cx]
      have e3 : ¬ nI T0 ≤ 0 := nI_nle t0 (by omega)
      have e4 : ¬ nI T1 ≤ 0 := nI_nle t1 (by omega)
      have e5 : ¬ nI (x i) < 0 := nI_pos (by omega)
      rw [hfar]
      simp only [nw_lt, e2, e3, e4, e5, if_true, if_false]
    · have t0 : T0 = 0 := by
        by_cases c : 0 < T0
        · exact absurd (hP0.mp c) cx
        · omega
      have t1 : T1 = 0 := by omega
      have hfar : nx_far (x i) = (-99998 : Int32) := by unfold nx_far; rw [if_neg cx]
      have e3 : nI T0 ≤ 0 := by rw [t0]; decide
      have e4 : nI T1 ≤ 0 := by rw [t1]; decide
      rw [hfar]
      simp only [nw_lt, e2, e3, e4, nn, if_true, if_false]
  have key : ∃ σ', (if nx_far L < 0 then (some (true, τ4)) else (if nx_far L < nx_far (x i) then (some (false, τ4)) else (if nx_far (x i) < 0 then (some (false, τ4)) else (jv_bd (f_L_asks τ4 (2 : Int32) (nI i) (nI j) (0 : Int32)) (fun q63 => if q63.1 < (1 : Int32) then (some (false, q63.2)) else (some (true, q63.2))))))) = some (true, σ') ∧ nx_H p σ' := by
    by_cases cL : L < 1000000000
    · obtain ⟨w1, w2⟩ := nx_alwge hW hj10 hne hx hLw cL
      have cx : x i < 1000000000 := by omega
      obtain ⟨L', w', hLw', hwl, D2⟩ := nx_A2 m2 hi hj (0 : Int32)
      obtain ⟨u1, u2⟩ := nx_alw_u hLw hLw'
      subst u1; subst u2
      obtain ⟨τ5, k1, k2⟩ := D2 τ4 m2
      have k1 : f_L_asks τ4 (2 : Int32) (nI i) (nI j) (0 : Int32) = some (if L < 1000000000 then nI w.length else (-99998 : Int32), τ5) := k1
      rw [if_pos cL] at k1
      have hfar : nx_far (x i) = nI (x i) := by unfold nx_far; rw [if_pos cx]
      have hfarL : nx_far L = nI L := by unfold nx_far; rw [if_pos cL]
      refine ⟨τ5, ?_, k2⟩
      rw [hfar, hfarL, if_neg (nI_pos (show L < 2 ^ 31 by omega)), if_neg (nI_nlt w1 (by omega)), if_neg (nI_pos (show x i < 2 ^ 31 by omega)), k1, nw_bd, if_neg (show ¬ nI w.length < (1 : Int32) from nI_nlt (b := 1) w2 (by omega))]
    · have hfarL : nx_far L = (-99998 : Int32) := by unfold nx_far; rw [if_neg cL]
      exact ⟨τ4, by rw [hfarL, if_pos nn], m2⟩
  obtain ⟨σ', k1, k2⟩ := key
  refine ⟨σ', ?_, k2⟩
  unfold f_L_areSetsSo
  rw [a1, nw_bd]
  dsimp only
  rw [nx_xeO, b1, nw_bd]
  dsimp only
  rw [nx_xeO, c1, nw_bd, d1, nw_bd]
  dsimp only
  rw [hfirst, nw_lt, m1, nw_bd]
  dsimp only
  rw [if_pos rfl, k1, nw_bd]
end NXSS
