/-! ===== shortest walks: both sides' rounds ===== -/
def nw_ba (to v L : Nat) : Prop := v = to ∧ L = 0
def nw_arc (N : nw_N) (v w u : Nat) : Prop := ∃ e, e < nw_m N ∧ nw_us N e = true ∧ nw_t N e = v ∧ nw_e N e = u ∧ w = nw_l N e
def nw_rra (N : nw_N) (v w u : Nat) : Prop := nw_arc N u w v
def nw_rp (a : Nat) (σ : jv_S) (x : Nat → Nat) : Prop := ∀ v, v < 10 → σ.1 a v = nI (x v)
/-- the distances to a node -/
def nw_ds (N : nw_N) (to : Nat) (x : Nat → Nat) : Prop := bf_V (nw_ba to) (nw_arc N) 10 1000000000 x ∧ bf_C (nw_ba to) (nw_arc N) 10 x
section NWD
variable {N : nw_N} {a : Nat}
theorem nw_ofN {σ : jv_S} {x : Nat → Nat} (h : nw_rp a σ x) {v : Nat} (hv : v < 10) : f_X2_ofNode a σ (nI v) = nI (x v) := by
  unfold f_X2_ofNode
  rw [nw_rd (by omega) (by omega), h v hv]
theorem nw_keepC {σ τ : jv_S} (ha : 7 < a) (h : nw_f (nw_r a) σ τ) (hC : nw_C0 N σ) : nw_C0 N τ := hC.keep (fun k j hk => (h k j (by
  simp only [nw_r, beq_eq_false_iff_ne]
  rintro rfl
  simp [nw_pC] at hk
  omega)).1)
theorem nw_keepD {σ τ : jv_S} (ha : 7 < a) (h : nw_f (nw_r a) σ τ) (hC : nw_C1 N σ) : nw_C1 N τ := hC.keep (h.row (by omega)) (h.row (by omega))
theorem nw_dlp (hW : nw_W N) (ha : 7 < a) {to : Nat} : ∀ (k p fuel : Nat) (c : Bool) (σ : jv_S) (x : Nat → Nat), p + k = nw_pv N 10 → k < fuel → nw_C0 N σ → nw_C1 N σ → nw_rp a σ x → bf_V (nw_ba to) (nw_arc N) 10 1000000000 x →
    ∃ τ c' x', f_X2_shortenAll_lp4 a fuel c (nI p) σ = some (c', nI (nw_pv N 10), τ) ∧ nw_f (nw_r a) σ τ ∧ nw_rp a τ x' ∧ bf_V (nw_ba to) (nw_arc N) 10 1000000000 x' ∧ (∀ v, x' v ≤ x v) ∧ (∀ i y, p ≤ i → (nw_ol N 10)[i]? = some y → x' (nw_t N y) ≤ nw_l N y + x (nw_e N y)) ∧ (c' = false → c = false ∧ x' = x) := by
  intro k
  have hn := hW.n
  have h4 := nw_pv_le (N := N) (v := 10)
  induction k with
  | zero =>
    intro p fuel c σ x hp hf hC hD hr hV
    obtain ⟨f, rfl⟩ := nw_f0 hf
    have hp : p = nw_pv N 10 := by omega
    subst hp
    refine ⟨σ, c, x, ?_, nw_f.rfl, hr, hV, fun v => Nat.le_refl _, fun i y hi hy => ?_, fun h => ⟨h, rfl⟩⟩
    · rw [f_X2_shortenAll_lp4, nw_tot hD, if_pos (nI_le (Nat.le_refl _) (by omega))]
    · have := (nw_outa hW hD hy).2
      omega
  | succ k ih =>
    intro p fuel c σ x hp hf hC hD hr hV
    obtain ⟨f, rfl, hg⟩ := nw_fe hf; clear hf; have hf := hg
    have hlt : p < (nw_ol N 10).length := by rw [nw_ol_len]; omega
    obtain ⟨y, hy⟩ : ∃ y, (nw_ol N 10)[p]? = some y := ⟨_, List.getElem?_eq_getElem hlt⟩
    obtain ⟨hym, hyt, hyu⟩ := nw_ol_mem.mp (List.mem_of_getElem? hy)
    have he := hW.e hym
    have hb1 := (hV _ he.1).1
    have hb2 := (hV _ he.2.1).1
    rw [f_X2_shortenAll_lp4, nw_tot hD, if_neg (nI_ge (by omega) (by omega)), (nw_outa hW hD hy).1, nw_tail hW hC hym, nw_head hW hC hym, nw_len hW hC hym, nw_ofN hr he.1, nw_ofN hr he.2.1, nI_add, nI_1]
    by_cases c1 : x (nw_t N y) ≤ nw_l N y + x (nw_e N y)
    · rw [if_pos (nI_le c1 (by omega)), nw_lt]
      obtain ⟨τ, c', x', g1, g2, g3, g4, g5, g6, g7⟩ := ih (p + 1) f c σ x (by omega) hf hC hD hr hV
      refine ⟨τ, c', x', g1, g2, g3, g4, g5, fun i z hi hz => ?_, g7⟩
      by_cases e : i = p
      · subst e
        rw [hy] at hz
        cases hz
        exact Nat.le_trans (g5 _) c1
      · exact g6 i z (by omega) hz
    · rw [if_neg (nI_ge (by omega) (by omega)), nw_lt, nw_wr he.1 (by omega)]
      have hf1 : nw_f (nw_r a) σ (jv_si σ a (nw_t N y) (nI (nw_l N y + x (nw_e N y)))) := nw_f.rfl.si nw_r_t
      obtain ⟨τ, c', x', g1, g2, g3, g4, g5, g6, g7⟩ := ih (p + 1) f true (jv_si σ a (nw_t N y) (nI (nw_l N y + x (nw_e N y)))) (fun w => if w = nw_t N y then nw_l N y + x (nw_e N y) else x w) (by omega) hf (nw_keepC ha hf1 hC) (nw_keepD ha hf1 hD) (fun v hv => by
          by_cases e : v = nw_t N y
          · subst e; dsimp only; rw [nw_gs, if_pos rfl]
          · dsimp only; rw [nw_gj e, if_neg e, hr v hv]) (fun v hv => by
          by_cases e : v = nw_t N y
          · subst e
            simp only [if_true]
            obtain ⟨h, hR⟩ := (hV _ he.2.1).2 (by omega)
            exact ⟨by omega, fun _ => ⟨h + 1, bf_R.step ⟨y, hym, hyu, rfl, rfl, rfl⟩ hR⟩⟩
          · simp only [if_neg e]
            exact hV v hv)
      have hle : ∀ v, (if v = nw_t N y then nw_l N y + x (nw_e N y) else x v) ≤ x v := fun v => by
        by_cases e : v = nw_t N y
        · subst e; rw [if_pos rfl]; omega
        · rw [if_neg e]; exact Nat.le_refl _
      refine ⟨τ, c', x', g1, hf1.trans g2, g3, g4, fun v => Nat.le_trans (g5 v) (hle v), fun i z hi hz => ?_, fun h => absurd (g7 h).1 (by decide)⟩
      by_cases e : i = p
      · subst e
        rw [hy] at hz
        cases hz
        have := g5 (nw_t N y)
        rwa [if_pos rfl] at this
      · have h1 := g6 i z (by omega) hz
        have h2 := hle (nw_e N z)
        omega
theorem nw_ba0 {to : Nat} {x : Nat → Nat} (h : x to = 0) : ∀ i L, i < 10 → nw_ba to i L → x i ≤ L := by
  rintro i L _ ⟨rfl, rfl⟩
  omega
theorem nw_arcb (hW : nw_W N) {i w j : Nat} (h : nw_arc N i w j) : i < 10 ∧ j < 10 ∧ 1 ≤ w ∧ w ≤ 1000 := by
  obtain ⟨e, he, _, rfl, rfl, rfl⟩ := h
  have := hW.e he
  omega
theorem nw_dround (hW : nw_W N) (ha : 7 < a) {to : Nat} : ∀ (k r fuel : Nat) (c : Bool) (σ : jv_S) (x : Nat → Nat), r + k = 10 → k < fuel → nw_C0 N σ → nw_C1 N σ → nw_rp a σ x → bf_V (nw_ba to) (nw_arc N) 10 1000000000 x → x to = 0 → bf_S (nw_ba to) (nw_arc N) 10 x r → (c = false → bf_C (nw_ba to) (nw_arc N) 10 x) →
    ∃ τ c' r' x', f_X2_measureTo_lp22 a fuel c (nI r) σ = some (c', r', τ) ∧ nw_f (nw_r a) σ τ ∧ nw_rp a τ x' ∧ nw_ds N to x' := by
  intro k
  induction k with
  | zero =>
    intro r fuel c σ x hr hf hC hD hp hV h0 hS hc
    obtain ⟨f, rfl⟩ := nw_f0 hf
    have hr : r = 10 := by omega
    subst hr
    refine ⟨σ, c, nI 10, x, ?_, nw_f.rfl, hp, hV, bf_top hS (by omega)⟩
    rw [f_X2_measureTo_lp22, if_pos (show (10 : Int32) ≤ nI 10 from nI_le (Nat.le_refl _) (by omega))]
  | succ k ih =>
    intro r fuel c σ x hr hf hC hD hp hV h0 hS hc
    obtain ⟨f, rfl, hg⟩ := nw_fe hf; clear hf; have hf := hg
    rw [f_X2_measureTo_lp22, if_neg (show ¬ (10 : Int32) ≤ nI r from nI_ge (b := 10) (by omega) (by omega))]
    cases c with
    | false => exact ⟨σ, false, nI r, x, by simp, nw_f.rfl, hp, hV, hc rfl⟩
    | true =>
      rw [if_pos rfl]
      obtain ⟨τ, c', x', g1, g2, g3, g4, g5, g6, g7⟩ := nw_dlp hW ha (nw_pv N 10) 0 jv_fuel false σ x (by omega) (nw_fu (by have := nw_pv_le (N := N) (v := 10); have := hW.n; omega)) hC hD hp hV
      have g1' : f_X2_shortenAll_lp4 a jv_fuel false (0 : Int32) σ = some (c', nI (nw_pv N 10), τ) := g1
      unfold f_X2_shortenAll
      rw [g1', nw_bd, nw_bd, nI_1]
      have harc : ∀ i w j, i < 10 → nw_arc N i w j → j < 10 ∧ x' i ≤ w + x j := by
        rintro i w j _ ⟨e, he, hu, rfl, rfl, rfl⟩
        have hb := hW.e he
        obtain ⟨i, hi⟩ := List.mem_iff_getElem?.mp (nw_ol_mem.mpr ⟨he, hb.1, hu⟩)
        exact ⟨hb.2.1, g6 i e (by omega) hi⟩
      have h0' : x' to = 0 := by have := g5 to; omega
      obtain ⟨ρ, c2, r2, x2, k1, k2, k3, k4⟩ := ih (r + 1) f c' τ x' (by omega) hf (nw_keepC ha g2 hC) (nw_keepD ha g2 hD) g3 g4 h0' (bf_S1 hS (fun i _ => g5 i) (nw_ba0 h0) harc) (fun h => by
        obtain ⟨-, e⟩ := g7 h
        subst e
        exact bf_fix (nw_ba0 h0) harc)
      exact ⟨ρ, c2, r2, x2, k1, g2.trans k2, k3, k4⟩
/-- the class's distances -/
theorem nw_measure (hW : nw_W N) (ha : 7 < a) {σ : jv_S} (hC : nw_C0 N σ) (hD : nw_C1 N σ) {to : Nat} (hto : to < 10) : ∃ τ x, f_X2_measureTo a σ (nI to) = some τ ∧ nw_f (nw_r a) σ τ ∧ nw_rp a τ x ∧ nw_ds N to x := by
  have hf1 : nw_f (nw_r a) σ (jv_si (jv_fl σ a 10 (1000000000 : Int32)) a to (0 : Int32)) := (nw_f.rfl.fl (fun _ => nw_r_t)).si nw_r_t
  obtain ⟨τ, c', r', x, h1, h2, h3, h4⟩ := nw_dround (N := N) hW ha (to := to) 10 0 jv_fuel true (jv_si (jv_fl σ a 10 (1000000000 : Int32)) a to (0 : Int32)) (fun v => if v = to then 0 else 1000000000) rfl (nw_fu (by omega)) (nw_keepC ha hf1 hC) (nw_keepD ha hf1 hD) (fun v hv => by
      by_cases e : v = to
      · subst e; dsimp only; rw [nw_gs, if_pos rfl]; rfl
      · dsimp only; rw [nw_gj e, if_neg e, nw_fl, if_pos hv]; rfl) (fun v hv => by
      by_cases e : v = to
      · subst e; simp only [if_true]; exact ⟨by omega, fun _ => ⟨0, bf_R.base ⟨rfl, rfl⟩⟩⟩
      · simp only [if_neg e]; exact ⟨Nat.le_refl _, fun h => absurd h (Nat.lt_irrefl _)⟩) (by simp) (bf_S0 (by rintro i L _ ⟨rfl, rfl⟩; simp) (fun i w j _ h => (nw_arcb hW h).2.1)) (fun h => by cases h)
  refine ⟨τ, x, ?_, hf1.trans h2, h3, h4⟩
  unfold f_X2_measureTo
  rw [nw_wr hto (by omega), show (0 : Int32) = nI 0 from rfl] at *
  rw [h1, nw_bd]
/-! the reference -/
def nw_rq (n : Nat) (σ : jv_S) (x : Nat → Nat) : Prop := ∀ v, v < n → σ.1 57 v = nI (x v)
/-! there and back -/
theorem nw_rev {A : Nat → Nat → Nat → Prop} {s t : Nat} : ∀ (h v L : Nat), bf_R (nw_ba t) A v h L → ∀ h2 L2, bf_R (nw_ba s) (fun i w j => A j w i) v h2 L2 → bf_R (nw_ba s) (fun i w j => A j w i) t (h2 + h) (L2 + L) := by
  intro h
  induction h with
  | zero =>
    rintro v L ⟨rfl, rfl⟩ h2 L2 h3
    exact h3
  | succ h ih =>
    rintro v L ⟨w, j, L', ha, hR, rfl⟩ h2 L2 h3
    have := ih j L' hR (h2 + 1) (w + L2) (bf_R.step ha h3)
    rw [show h2 + (h + 1) = h2 + 1 + h by omega, show L2 + (w + L') = w + L2 + L' by omega]
    exact this
theorem nw_same (hW : nw_W N) {fr to : Nat} (hfr : fr < nw_n N) (hto : to < nw_n N) {x y : Nat → Nat} (hx : nw_ds N to x) (hy : bf_V (nw_ba fr) (nw_rra N) (nw_n N) 1000000000 y) (cy : bf_C (nw_ba fr) (nw_rra N) (nw_n N) y) : x fr = y to := by
  have hn := hW.n
  obtain ⟨a1, a2⟩ := hx.1 fr (by omega)
  obtain ⟨b1, b2⟩ := hy to hto
  have e1 : x fr < 1000000000 → y to ≤ x fr := fun h => by
    obtain ⟨k, hR⟩ := a2 h
    have := nw_rev k fr _ hR 0 0 (bf_R.base ⟨rfl, rfl⟩)
    rw [Nat.zero_add, Nat.zero_add] at this
    exact cy to k _ hto this
  have e2 : y to < 1000000000 → x fr ≤ y to := fun h => by
    obtain ⟨k, hR⟩ := b2 h
    have := nw_rev k to _ hR 0 0 (bf_R.base ⟨rfl, rfl⟩)
    rw [Nat.zero_add, Nat.zero_add] at this
    exact hx.2 fr k _ (by omega) this
  omega
end NWD
