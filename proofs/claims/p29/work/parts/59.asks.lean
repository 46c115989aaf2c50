/-! ===== questions: what they answer, told by the network alone ===== -/
theorem nx_q {α : Type} {p : nx_Pic} {f : jv_S → Option (α × jv_S)} {R : α → Prop} (hu : ∀ a b, R a → R b → a = b) (h : ∀ σ, nx_H p σ → ∃ a τ, R a ∧ f σ = some (a, τ) ∧ nx_H p τ) {σ0 : jv_S} (h0 : nx_H p σ0) : ∃ a, R a ∧ nx_D p f a p := by
  obtain ⟨a, p', ⟨h1, h2⟩, h3⟩ := nx_det (R := fun a p' => R a ∧ p' = p) (fun a b p1 p2 h1 h2 => ⟨hu a b h1.1 h2.1, h1.2.trans h2.2.symm⟩) (fun σ hσ => by
    obtain ⟨a, τ, h1, h2, h3⟩ := h σ hσ
    exact ⟨a, p, τ, ⟨h1, rfl⟩, h2, h3⟩) h0
  subst h2
  exact ⟨a, h1, h3⟩
def nx_far (x : Nat) : Int32 := if x < 1000000000 then nI x else (-99998 : Int32)
theorem nx_ds_u {N : nw_N} {j : Nat} {x y : Nat → Nat} (hx : nw_ds N j x) (hy : nw_ds N j y) {i : Nat} (hi : i < 10) : x i = y i := bf_uniq hx.1 hy.1 hx.2 hy.2 hi
section NXQ
variable {p : nx_Pic} {σ0 : jv_S} {i j : Nat}
theorem nx_nodes {σ : jv_S} (h : nx_H p σ) : f_X7_nodes σ = nI (nw_n p.1) := h.1.2.1.1
theorem nx_edges {σ : jv_S} (h : nx_H p σ) : f_X7_edges σ = nI (nw_m p.1) := h.1.2.1.2.1
theorem nx_usable {σ : jv_S} (h : nx_H p σ) : f_X7_usableEdges σ = nI (nw_pv p.1 10) := nw_tot h.1.2.2.1
theorem nx_way {σ : jv_S} {x : Nat} (hx : x < 1000000000) : f_X7_requireWay σ (nI x) = .ok (nI x) := by unfold f_X7_requireWay; rw [if_pos (nx_ltF hx)]
theorem nx_wayN {σ : jv_S} {x : Nat} (hx : ¬ x < 1000000000) (hb : x < 2 ^ 31) : f_X7_requireWay σ (nI x) = .error "java/util/NoSuchElementException" := by unfold f_X7_requireWay; rw [if_neg (nx_nltF hx hb)]
theorem nx_req2 {σ : jv_S} (h : nx_net p.1 σ) (hi : i < nw_n p.1) (hj : j < nw_n p.1) : f_X7_requireNodes σ (nI i) (nI j) = .ok () := by
  have hn := h.1.n
  rcases nx_nodes2 h (nI i) (nI j) with ⟨_, _, _, _, _, _, e⟩ | ⟨e, _⟩
  · exact e
  · rcases e with e | e
    · exact absurd e (nx_out2 hi (by omega))
    · exact absurd e (nx_out2 hj (by omega))
theorem nx_reqT {σ : jv_S} (h : nx_net p.1 σ) (hi : i < nw_n p.1) (hj : j < nw_n p.1) (hne : i ≠ j) : f_X7_requireTwoNodes σ (nI i) (nI j) = .ok () := by
  have hn := h.1.n
  rcases nx_two h (nI i) (nI j) with ⟨_, _, _, _, _, _, _, e⟩ | ⟨e, _⟩
  · exact e
  · exact absurd e (nx_two_no hn.2.1 hi hj hne rfl rfl)
theorem nx_reqS {σ : jv_S} (h : nx_net p.1 σ) (hi : i < nw_n p.1) : f_X7_requireTwoNodes σ (nI i) (nI i) = .error "java/lang/IllegalArgumentException" := by
  unfold f_X7_requireTwoNodes
  rw [nx_req2 h hi hi]
  show (if nI i = nI i then _ else _) = _
  rw [if_pos rfl]
/-- the distance -/
theorem nx_A0 (h0 : nx_H p σ0) (hi : i < nw_n p.1) (hj : j < nw_n p.1) (z : Int32) : ∃ x, nw_ds p.1 j x ∧ nx_D p (fun σ => f_L_asks σ (0 : Int32) (nI i) (nI j) z) (nx_far (x i)) p := by
  have hn := h0.1.1.n
  obtain ⟨a, ⟨x, h1, h2⟩, h3⟩ := nx_q (p := p) (f := fun σ => f_L_asks σ (0 : Int32) (nI i) (nI j) z) (R := fun a => ∃ x, nw_ds p.1 j x ∧ a = nx_far (x i)) (fun a b ⟨x, h1, h2⟩ ⟨y, g1, g2⟩ => by rw [h2, g2, nx_ds_u h1 g1 (show i < 10 by omega)]) (fun σ h => by
    obtain ⟨τ, x, g1, g2, g3, g4⟩ := nw_measure h.1.1 (a := 9) (by omega) h.1.2.1 h.1.2.2.1 (show j < 10 by omega)
    have hbx := (g4.1 i (by omega)).1
    refine ⟨_, τ, ⟨x, g4, rfl⟩, ?_, nx_scr h (nx_pSr (by omega) g2)⟩
    show f_L_asks σ (0 : Int32) (nI i) (nI j) z = _
    unfold f_L_asks f_X7_distance nx_far
    rw [if_pos rfl, nx_req2 h.1 hi hj, nx_xeO, g1, nw_bd, nw_ofN g3 (by omega)]
    by_cases cx : x i < 1000000000
    · rw [nx_way cx, if_pos cx]; rfl
    · rw [nx_wayN cx (by omega), if_neg cx]; rfl) h0
  subst h2
  exact ⟨x, h1, h3⟩
/-- how many paths are no longer -/
theorem nx_cnt {σ : jv_S} (h : nx_H p σ) (hi : i < nw_n p.1) (hj : j < nw_n p.1) (hne : i ≠ j) {l : Nat} (hl : l ≤ 100000) : ∃ τ, f_X7_countPaths σ (nI i) (nI j) (nI l) = some (.ok (nI ((nw_ap p.1 i j).countP (fun q => decide (nw_sl p.1 q ≤ l)))), τ) ∧ nx_H p τ := by
  have hn := h.1.1.n
  have hf14 : nw_f (nw_r 14) σ (jv_si σ 14 2 (nI j)) := nw_f.rfl.si nw_r_t
  have hC1 := nw_keepC (by omega) hf14 h.1.2.1
  have hD1 := nw_keepD (by omega) hf14 h.1.2.2.1
  obtain ⟨τ, x, g1, g2, g3, g4⟩ := nw_measure h.1.1 (a := 16) (by omega) hC1 hD1 (show j < 10 by omega)
  have hcnt := nw_count h.1.1 (nw_keepC (by omega) g2 hC1) (nw_keepD (by omega) g2 hD1) (show j < 10 by omega) (by rw [g2.row (by decide), nw_gs]) g3 g4 9 12 i (fun w => w == i) ((1 : Int32) <<< (nI i &&& 31)) l 0 (by omega) (by omega) (nw_cv0 (by omega) (by omega) hne) (fun w hw => by rw [nw_sh (by omega) (by omega)]; rfl) (by simp; exact fun h => hne h.symm) (by omega) hl
  refine ⟨τ, ?_, nx_scr h ((nx_pSr (by omega) hf14).trans (nx_pSr (by omega) g2))⟩
  have hr : f_X7_requireRange σ (nI l) (0 : Int32) (100000 : Int32) = .ok () := by
    rcases nx_range (σ := σ) (nI l) (0 : Int32) (100000 : Int32) with ⟨_, _, e⟩ | ⟨e, _⟩
    · exact e
    · exact absurd (nx_in (lo := 0) (Nat.zero_le l) hl (by omega)) e
  unfold f_X7_countPaths f_X4_upTo
  rw [nx_reqT h.1 hi hj hne, nx_xeO, hr, nx_xeO, g1, nw_bd, show f_X4_countFrom 12 τ (nI i) ((1 : Int32) <<< (nI i &&& 31)) (nI l) (0 : Int32) = _ from hcnt]
  rfl
/-- the greatest number of disjoint paths -/
theorem nx_many {σ : jv_S} (h : nx_H p σ) (hi : i < nw_n p.1) (hj : j < nw_n p.1) (hne : i ≠ j) (ap : Bool) : ∃ T τ, f_X7_disjointPaths σ (nI i) (nI j) (jv_b ap) = some (.ok (nI T), τ) ∧ nx_H p τ ∧ T ≤ 24 ∧ (∀ i', i' ≤ T → ∃ c, nw_OA p.1 i j ap i' c) ∧ (T = 24 ∨ nw_NA p.1 i j ap T) := by
  obtain ⟨τ, T, g1, g2, g3, g4, g5⟩ := nw_pathTot (ap := ap) h.1.1 hi hj h.1.2.1 h.1.2.2.1 h.1.2.2.2
  refine ⟨T, τ, ?_, nx_scr h (nx_pST g2), g3, g4, g5⟩
  unfold f_X7_disjointPaths
  rw [nx_reqT h.1 hi hj hne, nx_xeO, g1]
  rfl
def nx_co (N : nw_N) (i j : Nat) (ap : Bool) (l : Nat) (a : Int32) : Prop := (∃ L : Nat, L < 1000000000 ∧ nw_OA N i j ap l (L : Int) ∧ a = nI L) ∨ ((∃ k', k' < l ∧ nw_NA N i j ap k') ∧ a = (-99998 : Int32))
theorem nx_OA_u {N : nw_N} {ap : Bool} {k : Nat} {c c' : Int} (h : nw_OA N i j ap k c) (h' : nw_OA N i j ap k c') : c = c' := by
  obtain ⟨x, π, hG, rfl⟩ := h
  obtain ⟨y, π', hG', rfl⟩ := h'
  have h1 := nw_dualG hG (show nw_fe2 _ _ _ _ _ (k : Int) y from ⟨hG'.1, hG'.2.1⟩)
  have h2 := nw_dualG hG' (show nw_fe2 _ _ _ _ _ (k : Int) x from ⟨hG.1, hG.2.1⟩)
  omega
theorem nx_OA_NA {N : nw_N} {ap : Bool} {k k' : Nat} {c : Int} (h : nw_OA N i j ap k c) (h' : nw_NA N i j ap k') : k ≤ k' := by
  obtain ⟨x, π, hG, -⟩ := h
  have := h' x (k : Int) ⟨hG.1, hG.2.1⟩
  omega
theorem nx_co_u {N : nw_N} {ap : Bool} {l : Nat} {a b : Int32} (h : nx_co N i j ap l a) (h' : nx_co N i j ap l b) : a = b := by
  rcases h with ⟨L, h1, h2, h3⟩ | ⟨⟨k, h1, h2⟩, h3⟩ <;> rcases h' with ⟨L', g1, g2, g3⟩ | ⟨⟨k', g1, g2⟩, g3⟩
  · have := nx_OA_u h2 g2
    rw [h3, g3, show L = L' by omega]
  · have := nx_OA_NA h2 g2; omega
  · have := nx_OA_NA g2 h2; omega
  · rw [h3, g3]
/-- .. and the least sum of their lengths -/
theorem nx_A4 (h0 : nx_H p σ0) (hi : i < nw_n p.1) (hj : j < nw_n p.1) (hne : i ≠ j) {l : Nat} (hl1 : 1 ≤ l) (hl : l ≤ 4) (ap : Bool) : ∃ a, nx_co p.1 i j ap l a ∧ nx_D p (fun σ => f_L_asks σ (if ap = true then (5 : Int32) else (4 : Int32)) (nI i) (nI j) (nI l)) a p := by
  refine nx_q (R := nx_co p.1 i j ap l) (fun a b => nx_co_u) (fun σ h => ?_) h0
  obtain ⟨τ, L, g1, g2, g3, g4⟩ := nw_leastL (ap := ap) h.1.1 hi hj hl h.1.2.1 h.1.2.2.1 h.1.2.2.2
  have hr : f_X7_requireRange σ (nI l) (1 : Int32) (4 : Int32) = .ok () := by
    rcases nx_range (σ := σ) (nI l) (1 : Int32) (4 : Int32) with ⟨_, _, e⟩ | ⟨e, _⟩
    · exact e
    · exact absurd (nx_in (lo := 1) hl1 hl (by omega)) e
  have key : f_L_asks σ (if ap = true then (5 : Int32) else (4 : Int32)) (nI i) (nI j) (nI l) = some (if L < 1000000000 then nI L else (-99998 : Int32), τ) := by
    have hap : f_L_asks σ (if ap = true then (5 : Int32) else (4 : Int32)) (nI i) (nI j) (nI l) = jv_bd (f_X7_disjointLength σ (nI i) (nI j) (nI l) (jv_b ap)) (fun q7 => jv_xe q7.1 (fun e0 => if e0 = "java/lang/IllegalArgumentException" then some ((-99999 : Int32), q7.2) else (if e0 = "java/util/NoSuchElementException" then some ((-99998 : Int32), q7.2) else (none))) (fun v8 => some (v8, q7.2))) := by
      cases ap <;> rfl
    rw [hap]
    unfold f_X7_disjointLength
    rw [nx_reqT h.1 hi hj hne, nx_xeO, hr, nx_xeO, g1, nw_bd]
    by_cases cx : L < 1000000000
    · rw [nx_way cx, if_pos cx]; rfl
    · rw [nx_wayN cx (by omega), if_neg cx]; rfl
  refine ⟨_, τ, ?_, key, nx_scr h (nx_pST g2)⟩
  rcases g4 with ⟨k1, k2⟩ | ⟨k1, k2⟩
  · exact Or.inl ⟨L, k1, k2, by rw [if_pos k1]⟩
  · exact Or.inr ⟨k2, by rw [if_neg (by omega)]⟩
/-- .. between one node and itself there is nothing to be asked -/
theorem nx_A4e (hi : i < nw_n p.1) (z : Int32) (ap : Bool) : nx_D p (fun σ => f_L_asks σ (if ap = true then (5 : Int32) else (4 : Int32)) (nI i) (nI i) z) (-99999 : Int32) p := by
  intro σ h
  refine ⟨σ, ?_, h⟩
  have hap : f_L_asks σ (if ap = true then (5 : Int32) else (4 : Int32)) (nI i) (nI i) z = jv_bd (f_X7_disjointLength σ (nI i) (nI i) z (jv_b ap)) (fun q7 => jv_xe q7.1 (fun e0 => if e0 = "java/lang/IllegalArgumentException" then some ((-99999 : Int32), q7.2) else (if e0 = "java/util/NoSuchElementException" then some ((-99998 : Int32), q7.2) else (none))) (fun v8 => some (v8, q7.2))) := by
    cases ap <;> rfl
  show f_L_asks σ (if ap = true then (5 : Int32) else (4 : Int32)) (nI i) (nI i) z = _
  rw [hap]
  unfold f_X7_disjointLength
  rw [nx_reqS h.1 hi]
  rfl
/-! ===== the first allowed walk ===== -/
def nx_alw (N : nw_N) (fr to L : Nat) (w : List Nat) : Prop :=
  (fr = to ∧ L = 0 ∧ w = []) ∨ (fr ≠ to ∧ ∃ x, nw_ad N to (nw_m N) x ∧ ((nw_bo x (fun f => f < nw_m N ∧ nw_t N f = fr) none ∧ L = 1000000000 ∧ w = []) ∨ ∃ b q, nw_bo x (fun f => f < nw_m N ∧ nw_t N f = fr) (some b) ∧ nw_aw N to x b q ∧ L = x b ∧ w = b :: q))
theorem nx_aw_u {N : nw_N} {to : Nat} {x y : Nat → Nat} (hxy : ∀ e, e < nw_m N → x e = y e) : ∀ (q q' : List Nat) (e : Nat), nw_aw N to x e q → nw_aw N to y e q' → q = q' := by
  intro q
  induction q with
  | nil =>
    intro q' e h h'
    cases q' with
    | nil => rfl
    | cons f q' => exact absurd h.2.2.1 h'.2.2.1
  | cons f q ih =>
    intro q' e h h'
    cases q' with
    | nil => exact absurd h'.2.2.1 h.2.2.1
    | cons f' q' =>
      obtain ⟨a1, a2, a3, a4, a5, a6, a7⟩ := h
      obtain ⟨b1, b2, b3, b4, b5, b6, b7⟩ := h'
      have hf := nw_bo_uniq (nw_bo_congr (fun g hg => hxy g hg.1) a5) b5
      cases hf
      rw [ih q' f a7 b7]
theorem nx_alw_u {N : nw_N} {fr to L L' : Nat} {w w' : List Nat} (h : nx_alw N fr to L w) (h' : nx_alw N fr to L' w') : L = L' ∧ w = w' := by
  rcases h with ⟨h1, h2, h3⟩ | ⟨h1, x, hx, h2⟩
  · rcases h' with ⟨g1, g2, g3⟩ | ⟨g1, -⟩
    · exact ⟨h2.trans g2.symm, h3.trans g3.symm⟩
    · exact absurd h1 g1
  · rcases h' with ⟨g1, -⟩ | ⟨g1, y, hy, g2⟩
    · exact absurd g1 h1
    · have hxy : ∀ e, e < nw_m N → x e = y e := fun e he => bf_uniq hx.1 hy.1 hx.2 hy.2 he
      rcases h2 with ⟨h3, h4, h5⟩ | ⟨b, q, h3, h4, h5, h6⟩ <;> rcases g2 with ⟨g3, g4, g5⟩ | ⟨b', q', g3, g4, g5, g6⟩
      · exact ⟨h4.trans g4.symm, h5.trans g5.symm⟩
      · have := nw_bo_uniq (nw_bo_congr (fun f hf => hxy f hf.1) h3) g3
        cases this
      · have := nw_bo_uniq (nw_bo_congr (fun f hf => hxy f hf.1) h3) g3
        cases this
      · have := nw_bo_uniq (nw_bo_congr (fun f hf => hxy f hf.1) h3) g3
        cases this
        have hq := nx_aw_u hxy q q' b h4 g4
        exact ⟨by rw [h5, g5, hxy b h3.1.1], by rw [h6, g6, hq]⟩
def nx_pY2 (k j : Nat) : Bool := (k == 32 && j == 3) || k == 34 || k == 33
theorem nx_pSY {σ τ : jv_S} (h : nw_f nx_pY2 σ τ) : nw_f nx_pS σ τ := h.mono (fun k j h => by
  simp only [nx_pS, nx_pY2, Bool.or_eq_false_iff, Bool.and_eq_false_iff, beq_eq_false_iff_ne, decide_eq_false_iff_not] at h ⊢; omega)
theorem nx_find {N : nw_N} (hW : nw_W N) {fr to : Nat} (hfr : fr < 10) (hto : to < 10) {σ : jv_S} (hC : nw_C0 N σ) (hD : nw_C1 N σ) : ∃ L w, nx_alw N fr to L w ∧ L ≤ 1000000000 ∧ w.length ≤ 24 ∧ (∀ e ∈ w, e < 24) ∧ ∃ τ, f_X0_find σ (nI fr) (nI to) = some (nI L, τ) ∧ nw_f nx_pY2 σ τ ∧ τ.1 32 3 = nI w.length ∧ nw_rw (τ.1 34) w := by
  have hn := hW.n
  by_cases hft : fr = to
  · subst hft
    refine ⟨0, [], Or.inl ⟨rfl, rfl, rfl⟩, by omega, by simp, by simp, jv_si σ 32 3 (0 : Int32), ?_, nw_f.rfl.si (by rfl), by rw [nw_gs]; rfl, by intro i x hx; simp at hx⟩
    unfold f_X0_find; rw [if_pos rfl]; rfl
  · have hne : ¬ nI fr = nI to := fun h => hft ((nI_eq (by omega) (by omega)).mp h)
    have hf0 : nw_f nw_pY σ (jv_si σ 32 3 (0 : Int32)) := nw_f.rfl.si (by rfl)
    obtain ⟨τ, x, g1, g2, g3, g4, g5⟩ := nw_ameas hW hto (hf0.keepC hC nw_pY_C) (hf0.keepD hD (fun _ => rfl) (fun _ => rfl))
    have hC1 := nw_keepC3 g2 (hf0.keepC hC nw_pY_C)
    have hD1 := nw_keepD3 g2 (hf0.keepD hD (fun _ => rfl) (fun _ => rfl))
    have hA : nw_ad N to (nw_m N) x := ⟨fun i hi => g5.1 i (by omega), fun i h L hi hR => g5.2 i h L (by omega) hR⟩
    obtain ⟨o, b1, b2⟩ := nw_best hW hC1 hD1 g3 g4 hfr (bf := none) (fun b hb => by cases hb)
    have b3 : nw_bo x (fun f => f < nw_m N ∧ nw_t N f = fr) o := by
      have hmem : ∀ f, (f ∈ nw_oe N fr ∧ nw_al2 N none f = true) ↔ f < nw_m N ∧ nw_t N f = fr ∧ nw_us N f = true := fun f => by
        rw [nw_oe_mem]; exact ⟨fun h => h.1, fun h => ⟨h, rfl⟩⟩
      cases o with
      | none =>
        rintro f ⟨h1, h2⟩
        by_cases c : x f < 1000000000
        · exact b2 f ((hmem f).mpr ⟨h1, h2, nw_ad_us hA h1 c⟩)
        · omega
      | some b =>
        obtain ⟨q1, q2, q3, q4⟩ := b2
        have q1' := (hmem b).mp q1
        refine ⟨⟨q1'.1, q1'.2.1⟩, q2, fun f hf => ?_, fun f hf hlt => ?_⟩
        · by_cases c : x f < 1000000000
          · exact q3 f ((hmem f).mpr ⟨hf.1, hf.2, nw_ad_us hA hf.1 c⟩)
          · omega
        · by_cases c : x f < 1000000000
          · exact q4 f ((hmem f).mpr ⟨hf.1, hf.2, nw_ad_us hA hf.1 c⟩) hlt
          · omega
    have hlenF := nw_lenF g3 b2 (fun f hf => by have := (nw_oe_mem.mp hf.1).1; omega)
    have hft2 : nw_f nx_pY2 σ τ := (hf0.mono (fun k j h => by
      simp only [nw_pY, nx_pY2, Bool.or_eq_false_iff] at h ⊢; exact h.1)).trans (g2.mono (fun k j h => by
      simp only [nw_r, nx_pY2, Bool.or_eq_false_iff] at h ⊢; exact h.2))
    have t3 : τ.1 32 3 = nI 0 := by rw [g2.row (by decide), nw_gs]; rfl
    cases o with
    | none =>
      refine ⟨1000000000, [], Or.inr ⟨hft, x, hA, Or.inl ⟨b3, rfl, rfl⟩⟩, Nat.le_refl _, by simp, by simp, τ, ?_, hft2, t3, by intro i x hx; simp at hx⟩
      unfold f_X0_find
      rw [if_neg hne, g1, nw_bd, show f_X0_bestAfter τ (-1 : Int32) (nI fr) = _ from b1, nw_bd, hlenF]
      obtain ⟨fu, hfu⟩ := nw_f0 (nw_fu (k := 0) (by omega))
      rw [hfu, f_X0_find_lp31, if_pos (show nw_v1 none = (-1 : Int32) from rfl), nw_bd]
      rfl
    | some b =>
      have hbm := b3.1.1
      obtain ⟨q, p1, p2⟩ := nw_aw_len hW hA hbm b3.2.1
      have hmem := nw_aw_m q b p1
      obtain ⟨τ2, z, k1, k2, k3, k4⟩ := nw_findl hW hto (a4 := nI (x b)) g4 q [] b jv_fuel τ p1 (nw_fu (by omega)) hC1 hD1 g3 (by intro i x hx; simp at hx) t3 (by simp; omega)
      rw [List.nil_append] at k3 k4
      refine ⟨x b, b :: q, Or.inr ⟨hft, x, hA, Or.inr ⟨b, q, b3, p1, rfl, rfl⟩⟩, g4 b, by rw [List.length_cons]; exact p2, fun e he => by have := hmem e he; omega, τ2, ?_, hft2.trans (k2.mono (fun k j h => ?_)), k4, k3⟩
      · unfold f_X0_find
        rw [if_neg hne, g1, nw_bd, show f_X0_bestAfter τ (-1 : Int32) (nI fr) = _ from b1, nw_bd, hlenF, show f_X0_find_lp31 (nI to) (nI (nw_bx x (some b))) jv_fuel (nw_v1 (some b)) τ = _ from k1, nw_bd]
        rfl
      · simp only [nw_pY, nx_pY2, Bool.or_eq_false_iff] at h ⊢; exact h.1
theorem nx_A1 (h0 : nx_H p σ0) (hi : i < nw_n p.1) (hj : j < nw_n p.1) (z : Int32) : ∃ L w, nx_alw p.1 i j L w ∧ nx_D p (fun σ => f_L_asks σ (1 : Int32) (nI i) (nI j) z) (nx_far L) p := by
  have hn := h0.1.1.n
  obtain ⟨a, ⟨L, w, h1, h2⟩, h3⟩ := nx_q (p := p) (f := fun σ => f_L_asks σ (1 : Int32) (nI i) (nI j) z) (R := fun a => ∃ L w, nx_alw p.1 i j L w ∧ a = nx_far L) (fun a b ⟨L, w, h1, h2⟩ ⟨L', w', g1, g2⟩ => by rw [h2, g2, (nx_alw_u h1 g1).1]) (fun σ h => by
    obtain ⟨L, w, g0, g1, g2, g3, τ, g4, g5, g6, g7⟩ := nx_find h.1.1 (show i < 10 by omega) (show j < 10 by omega) h.1.2.1 h.1.2.2.1
    refine ⟨_, τ, ⟨L, w, g0, rfl⟩, ?_, nx_scr h (nx_pSY g5)⟩
    show f_L_asks σ (1 : Int32) (nI i) (nI j) z = _
    unfold f_L_asks f_X7_allowedLength nx_far
    rw [if_neg (by decide), if_pos rfl, nx_req2 h.1 hi hj, nx_xeO, g4, nw_bd]
    by_cases cx : L < 1000000000
    · rw [nx_way cx, if_pos cx]; rfl
    · rw [nx_wayN cx (by omega), if_neg cx]; rfl) h0
  subst h2
  exact ⟨L, w, h1, h3⟩
theorem nx_A2 (h0 : nx_H p σ0) (hi : i < nw_n p.1) (hj : j < nw_n p.1) (z : Int32) : ∃ L w, nx_alw p.1 i j L w ∧ w.length ≤ 24 ∧ nx_D p (fun σ => f_L_asks σ (2 : Int32) (nI i) (nI j) z) (if L < 1000000000 then nI w.length else (-99998 : Int32)) p := by
  have hn := h0.1.1.n
  obtain ⟨a, ⟨L, w, h1, h9, h2⟩, h3⟩ := nx_q (p := p) (f := fun σ => f_L_asks σ (2 : Int32) (nI i) (nI j) z) (R := fun a => ∃ L w, nx_alw p.1 i j L w ∧ w.length ≤ 24 ∧ a = if L < 1000000000 then nI w.length else (-99998 : Int32)) (fun a b ⟨L, w, h1, _, h2⟩ ⟨L', w', g1, _, g2⟩ => by rw [h2, g2, (nx_alw_u h1 g1).1, (nx_alw_u h1 g1).2]) (fun σ h => by
    obtain ⟨L, w, g0, g1, g2, g3, τ, g4, g5, g6, g7⟩ := nx_find h.1.1 (show i < 10 by omega) (show j < 10 by omega) h.1.2.1 h.1.2.2.1
    refine ⟨_, τ, ⟨L, w, g0, g2, rfl⟩, ?_, nx_scr h (nx_pSY g5)⟩
    show f_L_asks σ (2 : Int32) (nI i) (nI j) z = _
    unfold f_L_asks f_X7_allowedEdges f_X0_foundSize
    rw [if_neg (by decide), if_neg (by decide), if_pos rfl, nx_req2 h.1 hi hj, nx_xeO, g4, nw_bd]
    by_cases cx : L < 1000000000
    · rw [nx_way cx, if_pos cx, ← g6]; rfl
    · rw [nx_wayN cx (by omega), if_neg cx]; rfl) h0
  subst h2
  exact ⟨L, w, h1, h9, h3⟩
def nx_e1 (w : List Nat) : Int32 := match w[1]? with
  | some e => nI e
  | none => (-99998 : Int32)
theorem nx_A3 (h0 : nx_H p σ0) (hi : i < nw_n p.1) (hj : j < nw_n p.1) : ∃ L w, nx_alw p.1 i j L w ∧ nx_D p (fun σ => f_L_asks σ (3 : Int32) (nI i) (nI j) (1 : Int32)) (if L < 1000000000 then nx_e1 w else (-99998 : Int32)) p := by
  have hn := h0.1.1.n
  obtain ⟨a, ⟨L, w, h1, h2⟩, h3⟩ := nx_q (p := p) (f := fun σ => f_L_asks σ (3 : Int32) (nI i) (nI j) (1 : Int32)) (R := fun a => ∃ L w, nx_alw p.1 i j L w ∧ a = if L < 1000000000 then nx_e1 w else (-99998 : Int32)) (fun a b ⟨L, w, h1, h2⟩ ⟨L', w', g1, g2⟩ => by rw [h2, g2, (nx_alw_u h1 g1).1, (nx_alw_u h1 g1).2]) (fun σ h => by
    obtain ⟨L, w, g0, g1, g2, g3, τ, g4, g5, g6, g7⟩ := nx_find h.1.1 (show i < 10 by omega) (show j < 10 by omega) h.1.2.1 h.1.2.2.1
    refine ⟨_, τ, ⟨L, w, g0, rfl⟩, ?_, nx_scr h (nx_pSY g5)⟩
    show f_L_asks σ (3 : Int32) (nI i) (nI j) (1 : Int32) = _
    unfold f_L_asks f_X7_allowedEdge
    rw [if_neg (by decide), if_neg (by decide), if_neg (by decide), if_pos rfl, nx_req2 h.1 hi hj, nx_xeO, g4, nw_bd]
    by_cases cx : L < 1000000000
    · rw [nx_way cx, if_pos cx, nx_xeO]
      have hfe : f_X0_foundEdge τ (1 : Int32) = (match w[1]? with | some e => nI e | none => (-1 : Int32)) := by
        unfold f_X0_foundEdge
        rw [g6, if_neg (by decide)]
        cases hw : w[1]? with
        | none =>
          have : w.length ≤ 1 := by simpa using hw
          rw [if_pos (show nI w.length ≤ (1 : Int32) from nI_le (b := 1) this (by omega))]
          rfl
        | some e =>
          have : 1 < w.length := (List.getElem?_eq_some_iff.mp hw).1
          rw [if_neg (show ¬ nI w.length ≤ (1 : Int32) from nI_ge (a := 1) this (by omega))]
          show jv_lt (jv_rd (τ.1 34) 24 0 (nI 1)) (fun q2 => q2) = nI e
          rw [nw_rd (by omega) (by omega), g7 1 e hw]
          rfl
      rw [hfe]
      unfold nx_e1 f_X7_requireListed
      cases hw : w[1]? with
      | none => rfl
      | some e =>
        have := g3 e (List.mem_of_getElem? hw)
        show jv_bd (jv_xe (if nI e = (-1 : Int32) then _ else _) _ _) _ = _
        rw [if_neg (nw_nm1 (by omega))]
        rfl
    · rw [nx_wayN cx (by omega), if_neg cx]; rfl) h0
  subst h2
  exact ⟨L, w, h1, h3⟩
end NXQ
