/-! ===== a network ===== -/
abbrev nw_N : Type := (Nat × Nat) × ((Nat → Nat) × (Nat → Nat) × (Nat → Nat)) × (Nat → Bool) × (Nat → Bool) × (Nat → Nat → Bool)
def nw_n (N : nw_N) : Nat := N.1.1
def nw_m (N : nw_N) : Nat := N.1.2
def nw_t (N : nw_N) : Nat → Nat := N.2.1.1
def nw_e (N : nw_N) : Nat → Nat := N.2.1.2.1
def nw_l (N : nw_N) : Nat → Nat := N.2.1.2.2
def nw_ce (N : nw_N) : Nat → Bool := N.2.2.1
def nw_cn (N : nw_N) : Nat → Bool := N.2.2.2.1
def nw_fb (N : nw_N) : Nat → Nat → Bool := N.2.2.2.2
def nw_us (N : nw_N) (e : Nat) : Bool := !nw_ce N e && !nw_cn N (nw_t N e) && !nw_cn N (nw_e N e)
/-- well made -/
def nw_W (N : nw_N) : Prop := 2 ≤ nw_n N ∧ nw_n N ≤ 10 ∧ nw_m N ≤ 24 ∧ (∀ e, e < nw_m N → nw_t N e < nw_n N ∧ nw_e N e < nw_n N ∧ nw_t N e ≠ nw_e N e ∧ 1 ≤ nw_l N e ∧ nw_l N e ≤ 1000) ∧ ∀ e, nw_m N ≤ e → nw_ce N e = false
theorem nw_W.n {N : nw_N} (h : nw_W N) : 2 ≤ nw_n N ∧ nw_n N ≤ 10 ∧ nw_m N ≤ 24 := ⟨h.1, h.2.1, h.2.2.1⟩
theorem nw_W.e {N : nw_N} (h : nw_W N) {e : Nat} (he : e < nw_m N) : nw_t N e < 10 ∧ nw_e N e < 10 ∧ nw_t N e < nw_n N ∧ nw_e N e < nw_n N ∧ nw_t N e ≠ nw_e N e ∧ 1 ≤ nw_l N e ∧ nw_l N e ≤ 1000 ∧ nw_m N ≤ 24 ∧ nw_n N ≤ 10 := by
  have h1 := h.2.2.2.1 e he
  have h2 := h.2.1
  have h3 := h.2.2.1
  omega
/-- the usable edges out of a node, in their order; how many usable edges begin below a node -/
def nw_oe (N : nw_N) (v : Nat) : List Nat := (List.range' 0 (nw_m N)).filter (fun e => nw_t N e == v && nw_us N e)
def nw_pv (N : nw_N) (v : Nat) : Nat := (List.range' 0 (nw_m N)).countP (fun e => decide (nw_t N e < v) && nw_us N e)
def nw_ol (N : nw_N) (k : Nat) : List Nat := (List.range' 0 k).flatMap (nw_oe N)
theorem nw_oe_mem {N : nw_N} {v e : Nat} : e ∈ nw_oe N v ↔ e < nw_m N ∧ nw_t N e = v ∧ nw_us N e = true := by
  unfold nw_oe
  rw [List.mem_filter, nw_rgm]
  simp
theorem nw_ol_mem {N : nw_N} {k e : Nat} : e ∈ nw_ol N k ↔ e < nw_m N ∧ nw_t N e < k ∧ nw_us N e = true := by
  unfold nw_ol
  rw [List.mem_flatMap]
  constructor
  · rintro ⟨v, hv, he⟩
    rw [nw_rgm] at hv
    obtain ⟨h1, h2, h3⟩ := nw_oe_mem.mp he
    exact ⟨h1, by omega, h3⟩
  · rintro ⟨h1, h2, h3⟩
    exact ⟨nw_t N e, by rw [nw_rgm]; omega, nw_oe_mem.mpr ⟨h1, rfl, h3⟩⟩
theorem nw_pv_le {N : nw_N} {v : Nat} : nw_pv N v ≤ nw_m N := by
  have h := List.countP_le_length (p := fun e => decide (nw_t N e < v) && nw_us N e) (l := List.range' 0 (nw_m N))
  rw [List.length_range'] at h
  exact h
theorem nw_pv_cnt {t : Nat → Nat} {u : Nat → Bool} {v : Nat} (l : List Nat) : l.countP (fun e => decide (t e < v + 1) && u e) = l.countP (fun e => decide (t e < v) && u e) + (l.filter (fun e => t e == v && u e)).length := by
  induction l with
  | nil => rfl
  | cons a l ih =>
    rw [List.countP_cons, List.countP_cons, List.filter_cons, ih]
    cases hu : u a
    · simp
    · by_cases h1 : t a = v
      · simp [h1]; omega
      · by_cases h2 : t a < v
        · simp [h1, h2, show t a < v + 1 by omega]; omega
        · simp [h1, h2, show ¬ t a < v + 1 by omega]
theorem nw_pv_s {N : nw_N} {v : Nat} : nw_pv N (v + 1) = nw_pv N v + (nw_oe N v).length := nw_pv_cnt _
theorem nw_pv_0 {N : nw_N} : nw_pv N 0 = 0 := by
  unfold nw_pv
  rw [List.countP_eq_zero]
  intro a _
  simp
theorem nw_pv_mono {N : nw_N} {v w : Nat} (h : v ≤ w) : nw_pv N v ≤ nw_pv N w := by
  obtain ⟨d, rfl⟩ := Nat.exists_eq_add_of_le h
  clear h
  induction d with
  | zero => exact Nat.le_refl _
  | succ d ih => rw [← Nat.add_assoc, nw_pv_s]; omega
theorem nw_ol_s {N : nw_N} {k : Nat} : nw_ol N (k + 1) = nw_ol N k ++ nw_oe N k := by
  unfold nw_ol
  rw [nw_rga 0 k 1, List.flatMap_append, Nat.zero_add]
  simp [List.range']
theorem nw_ol_len {N : nw_N} (k : Nat) : (nw_ol N k).length = nw_pv N k := by
  induction k with
  | zero => rw [nw_pv_0]; rfl
  | succ k ih => rw [nw_ol_s, List.length_append, ih, nw_pv_s]
/-! ===== the class's tables hold the network; the reference's ===== -/
def nw_C0 (N : nw_N) (σ : jv_S) : Prop := σ.1 1 6 = nI (nw_n N) ∧ σ.1 1 7 = nI (nw_m N) ∧ (∀ e, e < nw_m N → σ.1 2 e = nI (nw_t N e) ∧ σ.1 3 e = nI (nw_e N e) ∧ σ.1 4 e = nI (nw_l N e)) ∧ (∀ e, e < 24 → bt (σ.1 1 9) e = nw_ce N e) ∧ (∀ v, v < 10 → bt (σ.1 1 8) v = nw_cn N v) ∧ ∀ e, e < 24 → ∀ f, f < 24 → bt (σ.1 5 e) f = nw_fb N e f
def nw_C1 (N : nw_N) (σ : jv_S) : Prop := (∀ v, v ≤ 10 → σ.1 7 v = nI (nw_pv N v)) ∧ ∀ v, v < 10 → ∀ i x, (nw_oe N v)[i]? = some x → σ.1 6 (nw_pv N v + i) = nI x
/-- the cells in which they lie -/
def nw_pC (k j : Nat) : Bool := (k == 1 && (j == 6 || j == 7 || j == 8 || j == 9)) || (k == 2 || k == 3 || k == 4 || k == 5)
def nw_pM (k j : Nat) : Bool := (k == 35 && (j == 1 || j == 2)) || (k == 36 || k == 37 || k == 38 || k == 39 || k == 40 || k == 41)
theorem nw_C0.keep {N : nw_N} {σ τ : jv_S} (h : nw_C0 N σ) (hs : ∀ k j, nw_pC k j = true → τ.1 k j = σ.1 k j) : nw_C0 N τ := by
  obtain ⟨h1, h2, h3, h4, h5, h6⟩ := h
  refine ⟨by rw [hs 1 6 rfl, h1], by rw [hs 1 7 rfl, h2], fun e he => ?_, fun e he => by rw [hs 1 9 rfl, h4 e he], fun v hv => by rw [hs 1 8 rfl, h5 v hv], fun e he f hf => by rw [hs 5 e rfl, h6 e he f hf]⟩
  rw [hs 2 e rfl, hs 3 e rfl, hs 4 e rfl]
  exact h3 e he
theorem nw_C1.keep {N : nw_N} {σ τ : jv_S} (h : nw_C1 N σ) (h6 : τ.1 6 = σ.1 6) (h7 : τ.1 7 = σ.1 7) : nw_C1 N τ := by
  obtain ⟨h1, h2⟩ := h
  exact ⟨fun v hv => by rw [h7, h1 v hv], fun v hv i x hx => by rw [h6, h2 v hv i x hx]⟩
section NWC
variable {N : nw_N} {σ : jv_S}
theorem nw_tail (hW : nw_W N) (hC : nw_C0 N σ) {e : Nat} (he : e < nw_m N) : f_X3_tailOf σ (nI e) = nI (nw_t N e) := by
  have := hW.n
  unfold f_X3_tailOf
  rw [nw_rd (by omega) (by omega), (hC.2.2.1 e he).1]
theorem nw_head (hW : nw_W N) (hC : nw_C0 N σ) {e : Nat} (he : e < nw_m N) : f_X3_headOf σ (nI e) = nI (nw_e N e) := by
  have := hW.n
  unfold f_X3_headOf
  rw [nw_rd (by omega) (by omega), (hC.2.2.1 e he).2.1]
theorem nw_len (hW : nw_W N) (hC : nw_C0 N σ) {e : Nat} (he : e < nw_m N) : f_X3_lengthOf σ (nI e) = nI (nw_l N e) := by
  have := hW.n
  unfold f_X3_lengthOf
  rw [nw_rd (by omega) (by omega), (hC.2.2.1 e he).2.2]
theorem nw_usC (hW : nw_W N) (hC : nw_C0 N σ) {e : Nat} (he : e < nw_m N) : f_X3_isUsable σ (nI e) = nw_us N e := by
  have h1 := hW.e he
  unfold f_X3_isUsable
  rw [nw_tail hW hC he, nw_head hW hC he, nw_hb (by omega), nw_hb (by omega), nw_hb (by omega), hC.2.2.2.1 e (by omega), hC.2.2.2.2.1 _ h1.1, hC.2.2.2.2.1 _ h1.2.1]
  unfold nw_us jv_lt
  cases nw_ce N e <;> cases nw_cn N (nw_t N e) <;> cases nw_cn N (nw_e N e) <;> rfl
theorem nw_tot (hC : nw_C1 N σ) : f_X3_usableTotal σ = nI (nw_pv N 10) := by
  unfold f_X3_usableTotal
  rw [show (10 : Int32) = nI 10 from rfl, nw_rd (by omega) (by omega), hC.1 10 (by omega)]
theorem nw_out (hW : nw_W N) (hC : nw_C1 N σ) {v i x : Nat} (hv : v < 10) (hx : (nw_oe N v)[i]? = some x) : f_X3_outEdge σ (nI (nw_pv N v + i)) = nI x := by
  have h1 := hW.n
  have h2 : i < (nw_oe N v).length := (List.getElem?_eq_some_iff.mp hx).1
  have h3 := nw_pv_s (N := N) (v := v)
  have h4 := nw_pv_le (N := N) (v := v + 1)
  unfold f_X3_outEdge
  rw [nw_rd (by omega) (by omega), hC.2 v hv i x hx]
theorem nw_st (hC : nw_C1 N σ) {v : Nat} (hv : v < 10) : f_X3_outStart σ (nI v) = nI (nw_pv N v) := by
  unfold f_X3_outStart
  rw [nw_rd (by omega) (by omega), hC.1 v (by omega)]
theorem nw_en (hC : nw_C1 N σ) {v : Nat} (hv : v < 10) : f_X3_outEnd σ (nI v) = nI (nw_pv N v + (nw_oe N v).length) := by
  unfold f_X3_outEnd
  rw [nI_1, nw_rd (by omega) (by omega), hC.1 (v + 1) (by omega), nw_pv_s]
/-- all places in one row -/
theorem nw_oat (hC : nw_C1 N σ) : ∀ k, k ≤ 10 → ∀ i x, (nw_ol N k)[i]? = some x → σ.1 6 i = nI x := by
  intro k
  induction k with
  | zero => intro _ i x hx; simp [nw_ol] at hx
  | succ k ih =>
    intro hk i x hx
    rw [nw_ol_s] at hx
    by_cases e : i < (nw_ol N k).length
    · rw [List.getElem?_append_left e] at hx
      exact ih (by omega) i x hx
    · rw [List.getElem?_append_right (by omega), nw_ol_len] at hx
      rw [nw_ol_len] at e
      have := hC.2 k (by omega) _ x hx
      rwa [show nw_pv N k + (i - nw_pv N k) = i by omega] at this
theorem nw_outa (hW : nw_W N) (hC : nw_C1 N σ) {i x : Nat} (hx : (nw_ol N 10)[i]? = some x) : f_X3_outEdge σ (nI i) = nI x ∧ i < nw_pv N 10 := by
  have h1 := hW.n
  have h2 : i < (nw_ol N 10).length := (List.getElem?_eq_some_iff.mp hx).1
  rw [nw_ol_len] at h2
  have h4 := nw_pv_le (N := N) (v := 10)
  unfold f_X3_outEdge
  rw [nw_rd (by omega) (by omega), nw_oat hC 10 (by omega) i x hx]
  exact ⟨rfl, h2⟩
/-! ===== the usable edges listed anew ===== -/
theorem nw_in (hW : nw_W N) {v : Nat} (hv : v < 10) : ∀ (k j fuel p : Nat) (σ : jv_S), j + k = nw_m N → k < fuel → nw_C0 N σ → p + ((List.range' j k).filter (fun e => nw_t N e == v && nw_us N e)).length ≤ 24 →
    ∃ τ, f_X3_listOutEdges_lp21 (nI v) fuel (nI p) (nI j) σ = some (nI (p + ((List.range' j k).filter (fun e => nw_t N e == v && nw_us N e)).length), nI (nw_m N), τ) ∧ nw_f (nw_r 6) σ τ ∧ (∀ i, i < p → τ.1 6 i = σ.1 6 i) ∧ ∀ i x, ((List.range' j k).filter (fun e => nw_t N e == v && nw_us N e))[i]? = some x → τ.1 6 (p + i) = nI x := by
  intro k
  have hn := hW.n
  induction k with
  | zero =>
    intro j fuel p σ hj hf hC hp
    obtain ⟨f, rfl⟩ := nw_f0 hf
    have hj : j = nw_m N := by omega
    subst hj
    refine ⟨σ, ?_, nw_f.rfl, fun _ _ => rfl, fun i x h => ?_⟩
    · rw [f_X3_listOutEdges_lp21, hC.2.1, if_pos (nI_le (Nat.le_refl _) (by omega))]
      rfl
    · simp at h
  | succ k ih =>
    intro j fuel p σ hj hf hC hp
    obtain ⟨f, rfl, hg⟩ := nw_fe hf; clear hf; have hf := hg
    have hjm : j < nw_m N := by omega
    have he := hW.e hjm
    rw [f_X3_listOutEdges_lp21, hC.2.1, if_neg (nI_ge hjm (by omega)), nw_tail hW hC hjm, nw_usC hW hC hjm, nI_1, nI_1]
    rw [nw_rg, List.filter_cons] at hp ⊢
    by_cases c1 : nw_t N j = v
    · cases c2 : nw_us N j
      · rw [c1, if_pos rfl, if_neg (by decide), nw_lt]
        simp only [c1, c2, Bool.and_false, Bool.false_eq_true, if_false] at hp ⊢
        exact ih (j + 1) f p σ (by omega) hf hC hp
      · rw [c1, if_pos rfl, if_pos rfl]
        simp only [c1, c2, Bool.and_true, beq_self_eq_true, if_true, List.length_cons] at hp ⊢
        rw [nw_wr (by omega) (by omega), nw_lt]
        obtain ⟨τ, h1, h2, h3, h4⟩ := ih (j + 1) f (p + 1) (jv_si σ 6 p (nI j)) (by omega) hf (hC.keep (fun a b hab => by rw [nw_gn (by rintro rfl; simp [nw_pC] at hab)])) (by omega)
        refine ⟨τ, ?_, (nw_f.rfl.si nw_r_t).trans h2, fun i hi => ?_, fun i x hx => ?_⟩
        · rw [h1, show p + 1 + ((List.range' (j + 1) k).filter (fun e => nw_t N e == v && nw_us N e)).length = p + (((List.range' (j + 1) k).filter (fun e => nw_t N e == v && nw_us N e)).length + 1) by omega]
        · rw [h3 i (by omega), nw_gj (by omega)]
        · cases i with
          | zero =>
            simp only [List.getElem?_cons_zero, Option.some.injEq] at hx
            subst hx
            rw [Nat.add_zero, h3 p (by omega), nw_gs]
          | succ i =>
            rw [List.getElem?_cons_succ] at hx
            rw [show p + (i + 1) = p + 1 + i by omega]
            exact h4 i x hx
    · rw [if_neg (fun h => c1 ((nI_eq (by omega) (by omega)).mp h)), nw_lt]
      simp only [beq_false_of_ne c1, Bool.false_and, Bool.false_eq_true, if_false] at hp ⊢
      exact ih (j + 1) f p σ (by omega) hf hC hp
/-- a good fuel -/
theorem nw_fu {k : Nat} (h : k ≤ 1000000000000000000000000000) : k < jv_fuel := Nat.lt_of_lt_of_le (by omega) jv_fuel_le
theorem nw_lst (hW : nw_W N) : ∀ (k v fuel : Nat) (σ : jv_S), v + k = 10 → k < fuel → nw_C0 N σ → (∀ w, w < v → σ.1 7 w = nI (nw_pv N w)) → (∀ w, w < v → ∀ i x, (nw_oe N w)[i]? = some x → σ.1 6 (nw_pv N w + i) = nI x) →
    ∃ τ, f_X3_listOutEdges_lp4 fuel (nI (nw_pv N v)) (nI v) σ = some (nI (nw_pv N 10), nI 10, τ) ∧ nw_f (fun a _ => a == 6 || a == 7) σ τ ∧ (∀ w, w < 10 → τ.1 7 w = nI (nw_pv N w)) ∧ ∀ w, w < 10 → ∀ i x, (nw_oe N w)[i]? = some x → τ.1 6 (nw_pv N w + i) = nI x := by
  intro k
  have hn := hW.n
  induction k with
  | zero =>
    intro v fuel σ hv hf hC h7 h6
    obtain ⟨f, rfl⟩ := nw_f0 hf
    have hv : v = 10 := by omega
    subst hv
    refine ⟨σ, ?_, nw_f.rfl, h7, h6⟩
    rw [f_X3_listOutEdges_lp4, if_pos (show (10 : Int32) ≤ nI 10 from nI_le (Nat.le_refl _) (by omega))]
  | succ k ih =>
    intro v fuel σ hv hf hC h7 h6
    obtain ⟨f, rfl, hg⟩ := nw_fe hf; clear hf; have hf := hg
    have h3 := nw_pv_s (N := N) (v := v)
    have h4 := nw_pv_le (N := N) (v := v + 1)
    rw [f_X3_listOutEdges_lp4, if_neg (show ¬ (10 : Int32) ≤ nI v from nI_ge (b := 10) (by omega) (by omega)), nw_wr (by omega) (by omega), nI_1]
    obtain ⟨τ, e1, e2, e3, e4⟩ := nw_in hW (show v < 10 by omega) (nw_m N) 0 jv_fuel (nw_pv N v) (jv_si σ 7 v (nI (nw_pv N v))) (by omega) (nw_fu (by omega)) (hC.keep (fun a b hab => by rw [nw_gn (by rintro rfl; simp [nw_pC] at hab)])) (by show nw_pv N v + (nw_oe N v).length ≤ 24; omega)
    have e1' : f_X3_listOutEdges_lp21 (nI v) jv_fuel (nI (nw_pv N v)) (0 : Int32) (jv_si σ 7 v (nI (nw_pv N v))) = some (nI (nw_pv N (v + 1)), nI (nw_m N), τ) := by rw [h3]; exact e1
    rw [e1', nw_bd]
    have e27 : τ.1 7 = (jv_si σ 7 v (nI (nw_pv N v))).1 7 := e2.row (by decide)
    obtain ⟨ρ, g1, g2, g3, g4⟩ := ih (v + 1) f τ (by omega) hf (hC.keep (fun a b hab => by
        rw [e2.row (by rintro rfl; simp [nw_pC] at hab), nw_gn (by rintro rfl; simp [nw_pC] at hab)])) (fun w hw => by
        rw [e27]
        by_cases e : w = v
        · subst e; rw [nw_gs]
        · rw [nw_gj e, h7 w (by omega)]) (fun w hw i x hx => by
        by_cases e : w = v
        · subst e; exact e4 i x hx
        · have := nw_pv_mono (N := N) (show w + 1 ≤ v by omega)
          have h5 := nw_pv_s (N := N) (v := w)
          have h6' : i < (nw_oe N w).length := (List.getElem?_eq_some_iff.mp hx).1
          rw [e3 _ (by omega), nw_gn (by decide)]
          exact h6 w (by omega) i x hx)
    refine ⟨ρ, g1, ?_, g3, g4⟩
    refine nw_f.trans (nw_f.trans (nw_f.rfl.si (by rfl)) (e2.mono (fun a b h => ?_))) g2
    simp only [Bool.or_eq_false_iff] at h
    exact h.1
theorem nw_list (hW : nw_W N) (hC : nw_C0 N σ) : ∃ τ, f_X3_listOutEdges σ = some τ ∧ nw_f (fun a _ => a == 6 || a == 7) σ τ ∧ nw_C1 N τ := by
  obtain ⟨τ, h1, h2, h3, h4⟩ := nw_lst hW 10 0 jv_fuel σ rfl (nw_fu (by omega)) hC (fun w hw => by omega) (fun w hw => by omega)
  rw [nw_pv_0] at h1
  have h1' : f_X3_listOutEdges_lp4 jv_fuel (0 : Int32) (0 : Int32) σ = some (nI (nw_pv N 10), nI 10, τ) := h1
  refine ⟨jv_si τ 7 10 (nI (nw_pv N 10)), ?_, h2.trans (nw_f.rfl.si rfl), ?_, ?_⟩
  · unfold f_X3_listOutEdges
    rw [h1', nw_bd, show (10 : Int32) = nI 10 from rfl, nw_wr (by omega) (by omega)]
  · intro v hv
    by_cases e : v = 10
    · subst e; rw [nw_gs]
    · rw [nw_gj e, h3 v (by omega)]
  · intro v hv i x hx
    rw [nw_gn (by decide)]
    exact h4 v hv i x hx
end NWC
