/-! ===== the class's lists of walks ===== -/
def nw_KW (N : nw_N) (cnt : Nat → Nat) (len : Nat → Nat → Nat) (uc : Nat → Nat) (fe rk sz : Nat → Nat → Nat) (σ : jv_S) : Prop :=
  (∀ v, v < 10 → σ.1 22 v = nI (cnt v)) ∧ (∀ e, e < 24 → σ.1 23 e = nI (uc e)) ∧
  (∀ v, v < 10 → ∀ r, r < cnt v → σ.1 18 (v * 50 + r) = nI (len v r) ∧ σ.1 19 (v * 50 + r) = nI (sz v r) ∧ (0 < len v r → σ.1 20 (v * 50 + r) = nI (fe v r) ∧ σ.1 21 (v * 50 + r) = nI (nw_e N (fe v r) * 50 + rk v r)) ∧ len v r ≤ 1000 * sz v r ∧ sz v r < wk_S 10 cnt)
theorem nw_S10 {cnt : Nat → Nat} (h : ∀ v, v < 10 → cnt v ≤ 50) : wk_S 10 cnt ≤ 500 := by
  have h1 := wk_S_le (n := 10) (f := cnt) (g := fun _ => 50) h
  have h2 : wk_S 10 (fun _ => 50) = 500 := rfl
  omega
def nw_pW (k j : Nat) : Bool := (k == 17 && (j == 7 || j == 8)) || (k == 18 || k == 19 || k == 20 || k == 21 || k == 22 || k == 23)
theorem nw_pW_C (k j : Nat) (h : nw_pC k j = true) : nw_pW k j = false := by
  simp only [nw_pC, nw_pW, Bool.or_eq_true, Bool.and_eq_true, beq_iff_eq, Bool.or_eq_false_iff, Bool.and_eq_false_iff, beq_eq_false_iff_ne] at h ⊢
  omega
theorem nw_f.keepC {N : nw_N} {P : Nat → Nat → Bool} {σ τ : jv_S} (h : nw_f P σ τ) (hC : nw_C0 N σ) (hP : ∀ k j, nw_pC k j = true → P k j = false) : nw_C0 N τ := hC.keep (fun k j hk => (h k j (hP k j hk)).1)
theorem nw_f.keepD {N : nw_N} {P : Nat → Nat → Bool} {σ τ : jv_S} (h : nw_f P σ τ) (hD : nw_C1 N σ) (h6 : ∀ j, P 6 j = false) (h7 : ∀ j, P 7 j = false) : nw_C1 N τ := hD.keep (h.lng h6).1 (h.lng h7).1
section NWY
variable {N : nw_N} {to : Nat} {cnt uc : Nat → Nat} {len fe rk sz : Nat → Nat → Nat} {M : Nat}
def nw_cd (N : nw_N) (cnt uc : Nat → Nat) (e : Nat) : Prop := uc e < cnt (nw_e N e) ∧ cnt (nw_t N e) < 50
def nw_cl2 (N : nw_N) (len : Nat → Nat → Nat) (uc : Nat → Nat) (e : Nat) : Nat := nw_l N e + len (nw_e N e) (uc e)
def nw_bs (N : nw_N) (cnt uc : Nat → Nat) (len : Nat → Nat → Nat) (p : Nat) (o : Option Nat) : Prop := match o with
  | none => ∀ i e, i < p → (nw_ol N 10)[i]? = some e → ¬ nw_cd N cnt uc e
  | some b => ∃ i0, i0 < p ∧ (nw_ol N 10)[i0]? = some b ∧ nw_cd N cnt uc b ∧ (∀ i e, i < i0 → (nw_ol N 10)[i]? = some e → nw_cd N cnt uc e → nw_cl2 N len uc b < nw_cl2 N len uc e) ∧ ∀ i e, i < p → (nw_ol N 10)[i]? = some e → nw_cd N cnt uc e → nw_cl2 N len uc b ≤ nw_cl2 N len uc e
def nw_v1 (o : Option Nat) : Int32 := match o with
  | none => (-1 : Int32)
  | some b => nI b
def nw_v2 (N : nw_N) (len : Nat → Nat → Nat) (uc : Nat → Nat) (o : Option Nat) : Nat := match o with
  | none => 1000000000
  | some b => nw_cl2 N len uc b
theorem nw_short_lp (hW : nw_W N) {σ : jv_S} (hC : nw_C0 N σ) (hD : nw_C1 N σ) (hK : nw_KW N cnt len uc fe rk sz σ) (h50 : ∀ v, v < 10 → cnt v ≤ 50) (h2 : ∀ e, e < nw_m N → nw_us N e = true → uc e ≤ cnt (nw_e N e)) : ∀ (k p fuel : Nat) (o : Option Nat), p + k = nw_pv N 10 → k < fuel → nw_bs N cnt uc len p o → nw_v2 N len uc o ≤ 1000000000 →
    ∃ o' z1 z2, f_X6_shortestEdge_lp7 fuel (nw_v1 o) (nI (nw_v2 N len uc o)) (nI p) σ = some (nw_v1 o', z1, z2) ∧ nw_bs N cnt uc len (nw_pv N 10) o' := by
  intro k
  have hn := hW.n
  have h4 := nw_pv_le (N := N) (v := 10)
  have hS := nw_S10 h50
  induction k with
  | zero =>
    intro p fuel o hp hf hb hv
    obtain ⟨f, rfl⟩ := nw_f0 hf
    have hp : p = nw_pv N 10 := by omega
    subst hp
    exact ⟨o, _, _, by rw [f_X6_shortestEdge_lp7, nw_tot hD, if_pos (nI_le (Nat.le_refl _) (by omega))], hb⟩
  | succ k ih =>
    intro p fuel o hp hf hb hv
    obtain ⟨f, rfl, hg⟩ := nw_fe hf
    have hlt : p < (nw_ol N 10).length := by rw [nw_ol_len]; omega
    obtain ⟨y, hy⟩ : ∃ y, (nw_ol N 10)[p]? = some y := ⟨_, List.getElem?_eq_getElem hlt⟩
    obtain ⟨hym, hyt, hyu⟩ := nw_ol_mem.mp (List.mem_of_getElem? hy)
    have he := hW.e hym
    have c22 := hK.1 _ he.2.1
    have t22 := hK.1 _ he.1
    have u23 := hK.2.1 y (by omega)
    have b1 := h50 _ he.1
    have b2 := h50 _ he.2.1
    rw [f_X6_shortestEdge_lp7, nw_tot hD, if_neg (nI_ge (by omega) (by omega)), (nw_outa hW hD hy).1, nw_tail hW hC hym, nw_head hW hC hym, nw_len hW hC hym, nw_rd (n := 10) he.1 (by omega), nw_rd (n := 10) he.2.1 (by omega), nw_rd (n := 24) (show y < 24 by omega) (by omega), c22, t22, u23, nI_1]
    have hstep : ∀ o', nw_bs N cnt uc len (p + 1) o' → nw_v2 N len uc o' ≤ 1000000000 → ∃ o2 z1 z2, f_X6_shortestEdge_lp7 f (nw_v1 o') (nI (nw_v2 N len uc o')) (nI (p + 1)) σ = some (nw_v1 o2, z1, z2) ∧ nw_bs N cnt uc len (nw_pv N 10) o2 := fun o' h1 h2 => ih (p + 1) f o' (by omega) hg h1 h2
    have hkeep : ¬ nw_cd N cnt uc y ∨ nw_v2 N len uc o ≤ nw_cl2 N len uc y → (∀ b, o = some b ∨ ¬ nw_cd N cnt uc y) ∨ (∃ b, o = some b) → nw_bs N cnt uc len (p + 1) o := fun hc hne => by
      cases o with
      | none =>
        intro i e hi hie hcd
        by_cases c : i = p
        · subst c
          rw [hy] at hie; cases hie
          rcases hne with h | ⟨b, h⟩
          · rcases h 0 with h | h
            · cases h
            · exact h hcd
          · cases h
        · exact hb i e (by omega) hie hcd
      | some b =>
        obtain ⟨i0, q1, q2, q3, q4, q5⟩ := hb
        refine ⟨i0, by omega, q2, q3, q4, fun i e hi hie hcd => ?_⟩
        by_cases c : i = p
        · subst c
          rw [hy] at hie; cases hie
          rcases hc with h | h
          · exact absurd hcd h
          · exact h
        · exact q5 i e (by omega) hie hcd
    by_cases c1 : cnt (nw_e N y) ≤ uc y
    · have hub := h2 y hym hyu
      rw [if_pos (nI_le c1 (by omega)), nw_lt]
      have hnc : ¬ nw_cd N cnt uc y := fun h => by have := h.1; omega
      exact hstep o (hkeep (Or.inl hnc) (Or.inl (fun b => Or.inr hnc))) hv
    · have hub : uc y < 50 := by omega
      rw [if_neg (nI_ge (by omega) (by omega))]
      by_cases c2 : cnt (nw_t N y) < 50
      · have hcd : nw_cd N cnt uc y := ⟨by omega, c2⟩
        have hent := hK.2.2 _ he.2.1 (uc y) (by omega)
        have e1 : f_X6_entry σ (nI (nw_e N y)) (nI (uc y)) = nI (nw_e N y * 50 + uc y) := by
          unfold f_X6_entry
          rw [show (50 : Int32) = nI 50 from rfl, pk_mul, nI_add]
        rw [if_pos (show nI (cnt (nw_t N y)) < (50 : Int32) from nI_lt (b := 50) c2 (by omega)), e1, nw_rd (by omega) (by omega), hent.1, nI_add]
        have hcl : nw_l N y + len (nw_e N y) (uc y) = nw_cl2 N len uc y := rfl
        rw [hcl]
        have hclb : nw_cl2 N len uc y ≤ 501000 := by unfold nw_cl2; omega
        by_cases c3 : nw_v2 N len uc o ≤ nw_cl2 N len uc y
        · rw [if_pos (nI_le c3 (by omega)), nw_lt]
          refine hstep o (hkeep (Or.inr c3) (Or.inr ?_)) hv
          cases o with
          | none => have : (1000000000 : Nat) ≤ nw_cl2 N len uc y := c3; omega
          | some b => exact ⟨b, rfl⟩
        · rw [if_neg (nI_ge (by omega) (by omega)), nw_lt]
          refine hstep (some y) ⟨p, by omega, hy, hcd, fun i e hi hie hcde => ?_, fun i e hi hie hcde => ?_⟩ (by show nw_cl2 N len uc y ≤ _; omega)
          · cases o with
            | none => exact absurd hcde (hb i e hi hie)
            | some b =>
              obtain ⟨i0, q1, q2, q3, q4, q5⟩ := hb
              have := q5 i e hi hie hcde
              have c3' : ¬ nw_cl2 N len uc b ≤ nw_cl2 N len uc y := c3
              omega
          · by_cases c : i = p
            · subst c
              rw [hy] at hie; cases hie; exact Nat.le_refl _
            · cases o with
              | none => exact absurd hcde (hb i e (by omega) hie)
              | some b =>
                obtain ⟨i0, q1, q2, q3, q4, q5⟩ := hb
                have := q5 i e (by omega) hie hcde
                have c3' : ¬ nw_cl2 N len uc b ≤ nw_cl2 N len uc y := c3
                omega
      · rw [if_neg (show ¬ nI (cnt (nw_t N y)) < (50 : Int32) from nI_nlt (b := 50) (by omega) (by omega)), nw_lt]
        have hnc : ¬ nw_cd N cnt uc y := fun h => c2 h.2
        exact hstep o (hkeep (Or.inl hnc) (Or.inl (fun b => Or.inr hnc))) hv
theorem nw_shortE (hW : nw_W N) {σ : jv_S} (hC : nw_C0 N σ) (hD : nw_C1 N σ) (hK : nw_KW N cnt len uc fe rk sz σ) (hL : nw_L N to cnt len uc fe rk sz M) : ∃ o, f_X6_shortestEdge σ = some (nw_v1 o) ∧ nw_bs N cnt uc len (nw_pv N 10) o := by
  have hn := hW.n
  have h4 := nw_pv_le (N := N) (v := 10)
  obtain ⟨o, z1, z2, g1, g2⟩ := nw_short_lp hW hC hD hK (fun v hv => (hL.1 v hv).1) hL.2.1 (nw_pv N 10) 0 jv_fuel none (by omega) (nw_fu (by omega)) (fun i e hi => by omega) (Nat.le_refl _)
  refine ⟨o, ?_, g2⟩
  unfold f_X6_shortestEdge
  rw [show f_X6_shortestEdge_lp7 jv_fuel (-1 : Int32) (1000000000 : Int32) (0 : Int32) σ = _ from g1, nw_bd]
/-- the places' order -/
theorem nw_ol_pw : ∀ k, (nw_ol N k).Pairwise (fun a b => nw_t N a < nw_t N b ∨ (nw_t N a = nw_t N b ∧ a < b)) := by
  intro k
  induction k with
  | zero => exact List.Pairwise.nil
  | succ k ih =>
    rw [nw_ol_s, List.pairwise_append]
    refine ⟨ih, List.Pairwise.imp_of_mem (fun {a b} ha hb hab => Or.inr ⟨by rw [(nw_oe_mem.mp ha).2.1, (nw_oe_mem.mp hb).2.1], hab⟩) nw_oe_lt, fun a ha b hb => Or.inl ?_⟩
    rw [(nw_oe_mem.mp hb).2.1]
    exact (nw_ol_mem.mp ha).2.1
theorem nw_bs_none (h : nw_bs N cnt uc len (nw_pv N 10) none) (hW : nw_W N) {e : Nat} (he : e < nw_m N) (hu : nw_us N e = true) : ¬ nw_cd N cnt uc e := by
  obtain ⟨i, hi⟩ := List.mem_iff_getElem?.mp (nw_ol_mem.mpr ⟨he, (hW.e he).1, hu⟩)
  have : i < (nw_ol N 10).length := (List.getElem?_eq_some_iff.mp hi).1
  rw [nw_ol_len] at this
  exact h i e this hi
theorem nw_bs_some {b : Nat} (h : nw_bs N cnt uc len (nw_pv N 10) (some b)) (hW : nw_W N) : b < nw_m N ∧ nw_us N b = true ∧ nw_cd N cnt uc b ∧ (∀ e, e < nw_m N → nw_us N e = true → nw_cd N cnt uc e → nw_cl2 N len uc b ≤ nw_cl2 N len uc e) ∧ ∀ e, e < b → nw_ue N (nw_t N b) e → nw_cd N cnt uc e → nw_cl2 N len uc b < nw_cl2 N len uc e := by
  obtain ⟨i0, q1, q2, q3, q4, q5⟩ := h
  obtain ⟨h1, h2, h3⟩ := nw_ol_mem.mp (List.mem_of_getElem? q2)
  have hidx : ∀ e, e < nw_m N → nw_us N e = true → ∃ i, i < nw_pv N 10 ∧ (nw_ol N 10)[i]? = some e := fun e he hu => by
    obtain ⟨i, hi⟩ := List.mem_iff_getElem?.mp (nw_ol_mem.mpr ⟨he, (hW.e he).1, hu⟩)
    have : i < (nw_ol N 10).length := (List.getElem?_eq_some_iff.mp hi).1
    rw [nw_ol_len] at this
    exact ⟨i, this, hi⟩
  refine ⟨h1, h3, q3, fun e he hu hc => ?_, fun e he hu hc => ?_⟩
  · obtain ⟨i, hi, hie⟩ := hidx e he hu
    exact q5 i e hi hie hc
  · obtain ⟨i, hi, hie⟩ := hidx e (by omega) hu.1
    refine q4 i e ?_ hie hc
    obtain ⟨j1, j2⟩ := List.getElem?_eq_some_iff.mp hie
    obtain ⟨k1, k2⟩ := List.getElem?_eq_some_iff.mp q2
    have hp := List.pairwise_iff_getElem.mp (nw_ol_pw (N := N) 10)
    rcases Nat.lt_trichotomy i i0 with c | c | c
    · exact c
    · subst c; rw [j2] at k2; omega
    · have := hp i0 i k1 j1 c
      rw [j2, k2, hu.2] at this
      omega
theorem nw_KWput (hW : nw_W N) {σ : jv_S} (hC : nw_C0 N σ) (hK : nw_KW N cnt len uc fe rk sz σ) (hL : nw_L N to cnt len uc fe rk sz M) {e : Nat} (he : e < nw_m N) (hu : nw_us N e = true) (hcd : nw_cd N cnt uc e) :
    nw_f nw_pW σ (f_X6_putAhead σ (nI e)) ∧ nw_KW N (nw_u1 cnt (nw_t N e) (cnt (nw_t N e) + 1)) (nw_u2 len (nw_t N e) (cnt (nw_t N e)) (nw_cl2 N len uc e)) (nw_u1 uc e (uc e + 1)) (nw_u2 fe (nw_t N e) (cnt (nw_t N e)) e) (nw_u2 rk (nw_t N e) (cnt (nw_t N e)) (uc e)) (nw_u2 sz (nw_t N e) (cnt (nw_t N e)) (sz (nw_e N e) (uc e) + 1)) (f_X6_putAhead σ (nI e)) ∧ (f_X6_putAhead σ (nI e)).1 17 = σ.1 17 := by
  have hb := hW.e he
  obtain ⟨k1, k2, k3⟩ := hK
  have h50 := fun v hv => (hL.1 v hv).1
  have hS := nw_S10 h50
  have c22 := k1 _ hb.1
  have u23 := k2 e (by omega)
  have b1 := hcd.2
  have b2 := h50 _ hb.2.1
  have hcd1 := hcd.1
  have hent := k3 _ hb.2.1 (uc e) hcd.1
  have hlen := hent.2.2.2.1
  have hsz := hent.2.2.2.2
  have hf1 : nw_f nw_pW σ (jv_si σ 23 e (nI (uc e + 1))) := nw_f.rfl.si (by rfl)
  have e1 : ∀ (σ : jv_S) (a b : Nat), f_X6_entry σ (nI a) (nI b) = nI (a * 50 + b) := fun σ a b => by
    unfold f_X6_entry
    rw [show (50 : Int32) = nI 50 from rfl, pk_mul, nI_add]
  have hdef : f_X6_putAhead σ (nI e) = jv_si (jv_si (jv_si (jv_si (jv_si (jv_si σ 23 e (nI (uc e + 1))) 18 (nw_t N e * 50 + cnt (nw_t N e)) (nI (nw_cl2 N len uc e))) 19 (nw_t N e * 50 + cnt (nw_t N e)) (nI (sz (nw_e N e) (uc e) + 1))) 20 (nw_t N e * 50 + cnt (nw_t N e)) (nI e)) 21 (nw_t N e * 50 + cnt (nw_t N e)) (nI (nw_e N e * 50 + uc e))) 22 (nw_t N e) (nI (cnt (nw_t N e) + 1)) := by
    unfold f_X6_putAhead f_X6_list
    have hC1 := hf1.keepC hC nw_pW_C
    rw [nw_rd (n := 24) (show e < 24 by omega) (by omega), u23, nI_1, nw_wr (n := 24) (by omega) (by omega), nw_tail hW hC1 he, nw_head hW hC he, nw_len hW hC he, e1, nw_rd (n := 10) hb.1 (by omega), nw_gn (by decide), c22, e1, nw_rd (n := 500) (by omega) (by omega), nw_rd (n := 500) (by omega) (by omega), hent.1, nw_gn (by decide), hent.2.1, nI_add, nI_1, nw_wr (n := 500) (by omega) (by omega), nw_wr (n := 500) (by omega) (by omega), nw_wr (n := 500) (by omega) (by omega), nw_wr (n := 500) (by omega) (by omega), nw_gn (by decide), nw_gn (by decide), nw_gn (by decide), nw_gn (by decide), nw_gn (by decide), nw_rd (n := 10) hb.1 (by omega), c22, nI_1, nw_wr (n := 10) hb.1 (by omega)]
    rfl
  rw [hdef]
  have htot : wk_S 10 (nw_u1 cnt (nw_t N e) (cnt (nw_t N e) + 1)) = wk_S 10 cnt + 1 := by
    rw [show wk_S 10 cnt + 1 = wk_S 10 cnt + wk_S 10 (fun a => if a = nw_t N e then 1 else 0) by rw [nw_S_one hb.1], ← wk_S_add]
    refine wk_S_congr (fun a _ => ?_)
    by_cases c : a = nw_t N e
    · subst c; rw [nw_u1s, if_pos rfl]
    · rw [nw_u1n c, if_neg c, Nat.add_zero]
  refine ⟨((((hf1.si (by rfl)).si (by rfl)).si (by rfl)).si (by rfl)).si (by rfl), ⟨fun v hv => ?_, fun g hg => ?_, fun v hv r hr => ?_⟩, ?_⟩
  · by_cases c : v = nw_t N e
    · subst c; rw [nw_gs, nw_u1s]
    · rw [nw_gj c, nw_u1n c, nw_gn (by decide), nw_gn (by decide), nw_gn (by decide), nw_gn (by decide), nw_gn (by decide), k1 v hv]
  · rw [nw_gn (by decide), nw_gn (by decide), nw_gn (by decide), nw_gn (by decide), nw_gn (by decide)]
    by_cases c : g = e
    · subst c; rw [nw_gs, nw_u1s]
    · rw [nw_gj c, nw_u1n c, k2 g hg]
  · rw [htot]
    by_cases c : v = nw_t N e ∧ r = cnt (nw_t N e)
    · obtain ⟨rfl, rfl⟩ := c
      rw [nw_u2s, nw_u2s, nw_u2s, nw_u2s]
      refine ⟨?_, ?_, fun _ => ⟨?_, ?_⟩, ?_, by omega⟩
      · rw [nw_gn (by decide), nw_gn (by decide), nw_gn (by decide), nw_gn (by decide), nw_gs]
      · rw [nw_gn (by decide), nw_gn (by decide), nw_gn (by decide), nw_gs]
      · rw [nw_gn (by decide), nw_gn (by decide), nw_gs]
      · rw [nw_gn (by decide), nw_gs]
      · unfold nw_cl2; omega
    · have hq : v ≠ nw_t N e ∨ r ≠ cnt (nw_t N e) := by omega
      have hr' : r < cnt v := by
        by_cases c2 : v = nw_t N e
        · subst c2; rw [nw_u1s] at hr; omega
        · rw [nw_u1n c2] at hr; exact hr
      have hv50 := h50 v hv
      have hix : v * 50 + r ≠ nw_t N e * 50 + cnt (nw_t N e) := by omega
      rw [nw_u2n hq, nw_u2n hq, nw_u2n hq, nw_u2n hq]
      obtain ⟨d1, d2, d3, d4, d5⟩ := k3 v hv r hr'
      refine ⟨?_, ?_, fun h => ⟨?_, ?_⟩, d4, by omega⟩
      · rw [nw_gn (by decide), nw_gn (by decide), nw_gn (by decide), nw_gn (by decide), nw_gj hix, nw_gn (by decide), d1]
      · rw [nw_gn (by decide), nw_gn (by decide), nw_gn (by decide), nw_gj hix, nw_gn (by decide), nw_gn (by decide), d2]
      · rw [nw_gn (by decide), nw_gn (by decide), nw_gj hix, nw_gn (by decide), nw_gn (by decide), nw_gn (by decide), (d3 h).1]
      · rw [nw_gn (by decide), nw_gj hix, nw_gn (by decide), nw_gn (by decide), nw_gn (by decide), nw_gn (by decide), (d3 h).2]
  · rw [nw_gn (by decide), nw_gn (by decide), nw_gn (by decide), nw_gn (by decide), nw_gn (by decide), nw_gn (by decide)]
end NWY
/-- the class's lists, whatever they hold -/
def nw_WL (N : nw_N) (to : Nat) (cnt : Nat → Nat) (tot : Nat) (σ : jv_S) : Prop := ∃ len uc fe rk sz M, nw_L N to cnt len uc fe rk sz M ∧ nw_KW N cnt len uc fe rk sz σ ∧ tot = wk_S 10 cnt
theorem nw_WL.keep {N : nw_N} {to tot : Nat} {cnt : Nat → Nat} {σ τ : jv_S} (h : nw_WL N to cnt tot σ) (hr : ∀ k, 18 ≤ k → k ≤ 23 → τ.1 k = σ.1 k) : nw_WL N to cnt tot τ := by
  obtain ⟨len, uc, fe, rk, sz, M, h1, ⟨k1, k2, k3⟩, h3⟩ := h
  refine ⟨len, uc, fe, rk, sz, M, h1, ⟨?_, ?_, ?_⟩, h3⟩
  · rw [hr 22 (by omega) (by omega)]; exact k1
  · rw [hr 23 (by omega) (by omega)]; exact k2
  · rw [hr 18 (by omega) (by omega), hr 19 (by omega) (by omega), hr 20 (by omega) (by omega), hr 21 (by omega) (by omega)]; exact k3
theorem nw_wadv_lp {N : nw_N} (hW : nw_W N) {to fr drawn : Nat} (hto : to < 10) (hfr : fr < 10) (hdr : drawn < 50) : ∀ (k s fuel tot : Nat) (cnt : Nat → Nat) (σ : jv_S), tot + k = 500 → k < fuel → s + 1 ≤ tot → nw_C0 N σ → nw_C1 N σ → σ.1 17 7 = nI fr → σ.1 17 8 = nI drawn → nw_WL N to cnt tot σ →
    ∃ τ cnt' tot', nw_f nw_pW σ τ ∧ τ.1 17 = σ.1 17 ∧ nw_WL N to cnt' tot' τ ∧ 1 ≤ tot' ∧ cnt fr ≤ cnt' fr ∧ ((∃ s', f_X6_advance_lp2 fuel (nI s) σ = some (.inr (s', τ)) ∧ drawn < cnt' fr) ∨ (f_X6_advance_lp2 fuel (nI s) σ = some (.inl (false, τ)) ∧ cnt' fr ≤ drawn ∧ ∀ T, nw_c N to fr T ≤ cnt' fr)) := by
  intro k
  induction k with
  | zero =>
    rintro s fuel tot cnt σ hk hf hs hC hD h7 h8 hWL
    obtain ⟨f, rfl⟩ := nw_f0 hf
    obtain ⟨len, uc, fe, rk, sz, M, hL, hK, ht⟩ := id hWL
    have h50 := fun v hv => (hL.1 v hv).1
    have hS := nw_S10 h50
    have hc : cnt fr = 50 := by
      by_cases c : cnt fr = 50
      · exact c
      · exfalso
        have h1 := h50 fr hfr
        have h2 := nw_S_lt (n := 10) (f := cnt) (g := fun _ => 50) h50 hfr (by show cnt fr < 50; omega)
        have h3 : wk_S 10 (fun _ => 50) = 500 := rfl
        omega
    refine ⟨σ, cnt, tot, nw_f.rfl, rfl, hWL, by omega, Nat.le_refl _, Or.inl ⟨nI s, ?_, by omega⟩⟩
    rw [f_X6_advance_lp2, if_neg (show ¬ (500 : Int32) ≤ nI s from nI_ge (b := 500) (by omega) (by omega)), h8, h7, nw_rd (n := 10) hfr (by omega), hK.1 fr hfr, if_pos (nI_lt (by omega) (by omega))]
  | succ k ih =>
    rintro s fuel tot cnt σ hk hf hs hC hD h7 h8 hWL
    obtain ⟨f, rfl, hg⟩ := nw_fe hf
    obtain ⟨len, uc, fe, rk, sz, M, hL, hK, ht⟩ := id hWL
    have h50 := fun v hv => (hL.1 v hv).1
    have hS := nw_S10 h50
    have hcf := h50 fr hfr
    rw [f_X6_advance_lp2, if_neg (show ¬ (500 : Int32) ≤ nI s from nI_ge (b := 500) (by omega) (by omega)), h8, h7, nw_rd (n := 10) hfr (by omega), hK.1 fr hfr]
    by_cases c1 : drawn < cnt fr
    · rw [if_pos (nI_lt c1 (by omega))]
      exact ⟨σ, cnt, tot, nw_f.rfl, rfl, hWL, by omega, Nat.le_refl _, Or.inl ⟨nI s, rfl, c1⟩⟩
    · rw [if_neg (nI_nlt (by omega) (by omega))]
      obtain ⟨o, g1, g2⟩ := nw_shortE hW hC hD hK hL
      rw [g1, nw_bd]
      cases o with
      | none =>
        rw [if_pos (show nw_v1 none = (-1 : Int32) from rfl)]
        refine ⟨σ, cnt, tot, nw_f.rfl, rfl, hWL, by omega, Nat.le_refl _, Or.inr ⟨rfl, by omega, fun T => ?_⟩⟩
        exact (nw_full hW hL (P := fun _ => True) (fun _ _ _ _ => trivial) (fun e he hu c1 c2 => absurd ⟨c1, c2⟩ (nw_bs_none g2 hW he hu)) T trivial fr hfr (by omega)).1
      | some b =>
        obtain ⟨b1, b2, b3, b4, b5⟩ := nw_bs_some g2 hW
        have hn := hW.n
        rw [if_neg (show ¬ nw_v1 (some b) = (-1 : Int32) from nw_nm1 (by omega)), nw_lt, nI_1]
        obtain ⟨p1, p2, p3⟩ := nw_KWput hW hC hK hL b1 b2 b3
        have hL' := nw_Ls hW hto hL b1 b2 b3.1 b3.2 (L := nw_cl2 N len uc b) rfl (fun g hg hgu c1 c2 => b4 g hg hgu ⟨c1, c2⟩) (fun g hg hgu c1 => b5 g hg hgu ⟨c1, by rw [hgu.2]; exact b3.2⟩)
        have htot : wk_S 10 (nw_u1 cnt (nw_t N b) (cnt (nw_t N b) + 1)) = wk_S 10 cnt + 1 := by
          rw [show wk_S 10 cnt + 1 = wk_S 10 cnt + wk_S 10 (fun a => if a = nw_t N b then 1 else 0) by rw [nw_S_one (hW.e b1).1], ← wk_S_add]
          refine wk_S_congr (fun a _ => ?_)
          by_cases c : a = nw_t N b
          · subst c; rw [nw_u1s, if_pos rfl]
          · rw [nw_u1n c, if_neg c, Nat.add_zero]
        obtain ⟨τ, cnt', tot', q1, q2, q3, q4, q5, q6⟩ := ih (s + 1) f (tot + 1) (nw_u1 cnt (nw_t N b) (cnt (nw_t N b) + 1)) (f_X6_putAhead σ (nI b)) (by omega) hg (by omega) (p1.keepC hC nw_pW_C) (p1.keepD hD (fun _ => rfl) (fun _ => rfl)) (by rw [p3, h7]) (by rw [p3, h8]) ⟨_, _, _, _, _, _, hL', p2, by rw [htot, ht]⟩
        refine ⟨τ, cnt', tot', p1.trans q1, q2.trans p3, q3, q4, ?_, q6⟩
        refine Nat.le_trans ?_ q5
        by_cases c : fr = nw_t N b
        · subst c; rw [nw_u1s]; omega
        · rw [nw_u1n c]; exact Nat.le_refl _
/-- the class's draw of walks -/
def nw_WC (N : nw_N) (fr to drawn : Nat) (σ : jv_S) : Prop := σ.1 17 7 = nI fr ∧ σ.1 17 8 = nI drawn ∧ ∃ cnt tot, nw_WL N to cnt tot σ ∧ 1 ≤ tot ∧ drawn ≤ cnt fr
theorem nw_wadv {N : nw_N} (hW : nw_W N) {to fr drawn : Nat} (hto : to < 10) (hfr : fr < 10) (hdr : drawn < 50) {σ : jv_S} (hC : nw_C0 N σ) (hD : nw_C1 N σ) (h : nw_WC N fr to drawn σ) :
    (∃ τ, f_X6_advance σ = some (true, τ) ∧ nw_f nw_pW σ τ ∧ nw_WC N fr to (drawn + 1) τ) ∨ (∃ τ, f_X6_advance σ = some (false, τ) ∧ nw_f nw_pW σ τ ∧ nw_WC N fr to drawn τ ∧ ∀ T, nw_c N to fr T ≤ drawn) := by
  obtain ⟨h7, h8, cnt, tot, hWL, ht1, hdc⟩ := h
  obtain ⟨len, uc, fe, rk, sz, M, hL, hK, ht⟩ := id hWL
  have hS := nw_S10 (fun v hv => (hL.1 v hv).1)
  obtain ⟨τ, cnt', tot', q1, q2, q3, q4, q5, q6⟩ := nw_wadv_lp hW hto hfr hdr (500 - tot) 0 jv_fuel tot cnt σ (by omega) (nw_fu (by omega)) (by omega) hC hD h7 h8 hWL
  unfold f_X6_advance
  rcases q6 with ⟨s', g, hlt⟩ | ⟨g, hle, hT⟩
  · refine Or.inl ⟨jv_si τ 17 8 (nI (drawn + 1)), ?_, q1.si (by rfl), ?_, nw_gs, cnt', tot', q3.keep (fun k h1 h2 => by rw [nw_gn (by omega)]), q4, hlt⟩
    · rw [show f_X6_advance_lp2 jv_fuel (0 : Int32) σ = _ from g, nw_bd]
      show some (true, jv_si τ 17 8 (τ.1 17 8 + (1 : Int32))) = _
      rw [q2, h8, nI_1]
    · rw [nw_gj (by decide), q2, h7]
  · refine Or.inr ⟨τ, ?_, q1, ⟨by rw [q2, h7], by rw [q2, h8], cnt', tot', q3, q4, by omega⟩, fun T => Nat.le_trans (hT T) hle⟩
    rw [show f_X6_advance_lp2 jv_fuel (0 : Int32) σ = _ from g, nw_bd]
    rfl
