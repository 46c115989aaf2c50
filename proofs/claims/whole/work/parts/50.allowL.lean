/-! ===== the first allowed walk is laid ===== -/
def nw_aw (N : nw_N) (to : Nat) (D : Nat → Nat) : Nat → List Nat → Prop
  | e, [] => e < nw_m N ∧ nw_us N e = true ∧ nw_e N e = to ∧ D e = nw_l N e
  | e, f :: p => e < nw_m N ∧ nw_us N e = true ∧ nw_e N e ≠ to ∧ D e < 1000000000 ∧ nw_bo D (nw_fo N e) (some f) ∧ D e = nw_l N e + D f ∧ nw_aw N to D f p
theorem nw_bo_congr {x y : Nat → Nat} {S : Nat → Prop} {o : Option Nat} (h : ∀ f, S f → x f = y f) (hb : nw_bo x S o) : nw_bo y S o := by
  cases o with
  | none => exact fun f hf => by rw [← h f hf]; exact hb f hf
  | some b =>
    obtain ⟨h1, h2, h3, h4⟩ := hb
    refine ⟨h1, by rw [← h b h1]; exact h2, fun f hf => ?_, fun f hf hlt => ?_⟩
    · rw [← h b h1, ← h f hf]; exact h3 f hf
    · rw [← h b h1, ← h f hf]; exact h4 f hf hlt
theorem nw_bo_iff {x : Nat → Nat} {S S' : Nat → Prop} {o : Option Nat} (h : ∀ f, S f ↔ S' f) (hb : nw_bo x S o) : nw_bo x S' o := by
  have : S = S' := funext fun f => propext (h f)
  rw [← this]; exact hb
theorem nw_bo_ex {x : Nat → Nat} {S : Nat → Prop} : ∀ n : Nat, (∀ f, S f → f < n) → ∃ o, nw_bo x S o := by
  have : ∀ n : Nat, ∃ o, nw_bo x (fun f => S f ∧ f < n) o := fun n => by
    induction n with
    | zero => exact ⟨none, fun f hf => absurd hf.2 (Nat.not_lt_zero _)⟩
    | succ n ih =>
      obtain ⟨o, ho⟩ := ih
      by_cases c : S n ∧ x n < nw_bx x o
      · refine ⟨some n, ⟨c.1, Nat.lt_succ_self n⟩, ?_, fun f hf => ?_, fun f hf hlt => ?_⟩
        · cases o with
          | none => exact c.2
          | some b => have := ho.2.1; have := c.2; have e : nw_bx x (some b) = x b := rfl; omega
        · by_cases e : f = n
          · subst e; exact Nat.le_refl _
          · cases o with
            | none => have := ho f ⟨hf.1, by omega⟩; have c2 : x n < 1000000000 := c.2; omega
            | some b => have := ho.2.2.1 f ⟨hf.1, by omega⟩; have c2 : x n < x b := c.2; omega
        · cases o with
          | none => have := ho f ⟨hf.1, hlt⟩; have c2 : x n < 1000000000 := c.2; omega
          | some b => have := ho.2.2.1 f ⟨hf.1, hlt⟩; have c2 : x n < x b := c.2; omega
      · refine ⟨o, ?_⟩
        cases o with
        | none =>
          intro f hf
          by_cases e : f = n
          · subst e
            by_cases c2 : x f < 1000000000
            · exact absurd ⟨hf.1, c2⟩ c
            · omega
          · exact ho f ⟨hf.1, by omega⟩
        | some b =>
          obtain ⟨q1, q2, q3, q4⟩ := ho
          refine ⟨⟨q1.1, by omega⟩, q2, fun f hf => ?_, fun f hf hlt => q4 f ⟨hf.1, by omega⟩ hlt⟩
          by_cases e : f = n
          · subst e
            by_cases c2 : x f < x b
            · exact absurd ⟨hf.1, c2⟩ c
            · omega
          · exact q3 f ⟨hf.1, by omega⟩
  intro n hn
  obtain ⟨o, ho⟩ := this n
  exact ⟨o, nw_bo_iff (fun f => ⟨fun h => h.1, fun h => ⟨h, hn f h⟩⟩) ho⟩
section NWE
variable {N : nw_N} {to : Nat} {D : Nat → Nat}
theorem nw_ad_us (hA : nw_ad N to (nw_m N) D) {e : Nat} (he : e < nw_m N) (h : D e < 1000000000) : nw_us N e = true := by
  obtain ⟨k, hR⟩ := (hA.1 e he).2 h
  cases k with
  | zero => exact hR.2.1
  | succ k => obtain ⟨w, j, L, ha, -, -⟩ := hR; exact ha.2.1
theorem nw_ad_b (hA : nw_ad N to (nw_m N) D) {e L h : Nat} (hR : bf_R (nw_bb N to) (nw_ba2 N) e h L) : nw_l N e ≤ L := by
  cases h with
  | zero => have := hR.2.2.2; omega
  | succ h => obtain ⟨w, j, L', ha, -, e1⟩ := hR; have := ha.2.2.2; omega
theorem nw_ad_to (hW : nw_W N) (hA : nw_ad N to (nw_m N) D) {e : Nat} (he : e < nw_m N) (hu : nw_us N e = true) (ht : nw_e N e = to) : D e = nw_l N e := by
  have hb := hW.e he
  have h1 := hA.2 e 0 _ he (bf_R.base ⟨he, hu, ht, rfl⟩)
  obtain ⟨k, hR⟩ := (hA.1 e he).2 (by omega)
  have := nw_ad_b hA hR
  omega
theorem nw_ad_nx (hA : nw_ad N to (nw_m N) D) {e : Nat} (he : e < nw_m N) (hu : nw_us N e = true) (ht : nw_e N e ≠ to) (h : D e < 1000000000) {o : Option Nat} (hb : nw_bo D (nw_fo N e) o) : ∃ f, o = some f ∧ D e = nw_l N e + D f := by
  obtain ⟨k, hR⟩ := (hA.1 e he).2 h
  cases k with
  | zero => exact absurd hR.2.2.1 ht
  | succ k =>
    obtain ⟨w, j, L, ha, hR', e1⟩ := hR
    have hw := ha.2.2.2
    have hj := hA.2 j k L ha.2.2.1.1 hR'
    cases o with
    | none => have := hb j ha.2.2.1; omega
    | some b =>
      refine ⟨b, rfl, ?_⟩
      have h1 := hb.2.2.1 j ha.2.2.1
      obtain ⟨k2, hR2⟩ := (hA.1 b hb.1.1).2 hb.2.1
      have h2 := hA.2 e (k2 + 1) _ he (bf_R.step ⟨he, hu, hb.1, rfl⟩ hR2)
      omega
theorem nw_aw_ex (hW : nw_W N) (hA : nw_ad N to (nw_m N) D) : ∀ (d e : Nat), e < nw_m N → D e = d → d < 1000000000 → ∃ p, nw_aw N to D e p ∧ p.length ≤ (List.range' 0 (nw_m N)).countP (fun g => decide (D g < D e)) := by
  intro d
  induction d using Nat.strongRecOn with
  | _ d ih =>
    intro e he hd hlt
    have hu := nw_ad_us hA he (by omega)
    by_cases ht : nw_e N e = to
    · exact ⟨[], ⟨he, hu, ht, nw_ad_to hW hA he hu ht⟩, Nat.zero_le _⟩
    · obtain ⟨o, ho⟩ := nw_bo_ex (x := D) (S := nw_fo N e) (nw_m N) (fun f hf => hf.1)
      obtain ⟨f, rfl, hf⟩ := nw_ad_nx hA he hu ht (by omega) ho
      have hb := hW.e he
      obtain ⟨p, p1, p2⟩ := ih (D f) (by omega) f ho.1.1 rfl (by omega)
      refine ⟨f :: p, ⟨he, hu, ht, by omega, ho, hf, p1⟩, ?_⟩
      have : (List.range' 0 (nw_m N)).countP (fun g => decide (D g < D f)) < (List.range' 0 (nw_m N)).countP (fun g => decide (D g < D e)) := by
        refine bf_clt (y := f) (fun g _ hg => ?_) (by rw [nw_rgm]; have := ho.1.1; omega) (by simp; omega) (by simp)
        simp only [decide_eq_true_eq] at hg ⊢
        omega
      rw [List.length_cons]
      omega
theorem nw_aw_len (hW : nw_W N) (hA : nw_ad N to (nw_m N) D) {e : Nat} (he : e < nw_m N) (h : D e < 1000000000) : ∃ p, nw_aw N to D e p ∧ p.length + 1 ≤ 24 := by
  obtain ⟨p, p1, p2⟩ := nw_aw_ex hW hA _ e he rfl h
  have h1 : (List.range' 0 (nw_m N)).countP (fun g => decide (D g < D e)) < (List.range' 0 (nw_m N)).countP (fun _ => true) := bf_clt (y := e) (fun _ _ _ => rfl) (by rw [nw_rgm]; omega) rfl (by simp)
  have h2 := List.countP_le_length (p := fun _ => true) (l := List.range' 0 (nw_m N))
  rw [List.length_range'] at h2
  have := hW.n
  exact ⟨p, p1, by omega⟩
theorem nw_aw_m : ∀ (p : List Nat) (e : Nat), nw_aw N to D e p → ∀ x ∈ e :: p, x < nw_m N := by
  intro p
  induction p with
  | nil => intro e h x hx; rw [List.mem_singleton.mp hx]; exact h.1
  | cons f p ih =>
    intro e h x hx
    rcases List.mem_cons.mp hx with rfl | hx
    · exact h.1
    · exact ih f h.2.2.2.2.2.2 x hx
def nw_pY (k j : Nat) : Bool := (k == 32 && j == 3) || k == 34
theorem nw_pY_C (k j : Nat) (h : nw_pC k j = true) : nw_pY k j = false := by
  simp only [nw_pC, nw_pY, Bool.or_eq_true, Bool.and_eq_true, beq_iff_eq, Bool.or_eq_false_iff, Bool.and_eq_false_iff, beq_eq_false_iff_ne] at h ⊢
  omega
theorem nw_rw_put {f : Nat → Int32} {pre : List Nat} {e : Nat} (h : nw_rw f pre) : nw_rw (upd f pre.length (nI e)) (pre ++ [e]) := by
  rw [nw_rw_app]
  refine ⟨fun i x hx => ?_, fun i x hx => ?_⟩
  · have := (List.getElem?_eq_some_iff.mp hx).1
    rw [pk_un (by omega)]
    exact h i x hx
  · cases i with
    | zero =>
      simp only [List.getElem?_cons_zero, Option.some.injEq] at hx
      subst hx
      exact pk_us
    | succ i => simp at hx
theorem nw_siu {σ : jv_S} {k j : Nat} {x : Int32} : (jv_si σ k j x).1 k = upd (σ.1 k) j x := by simp [jv_si, jv_u]
theorem nw_findl (hW : nw_W N) (hto : to < 10) {x : Nat → Nat} {a4 : Int32} (hxb : ∀ e, x e ≤ 1000000000) : ∀ (p pre : List Nat) (e fuel : Nat) (σ : jv_S), nw_aw N to x e p → p.length + 1 < fuel → nw_C0 N σ → nw_C1 N σ → nw_r24 33 σ x → nw_rw (σ.1 34) pre → σ.1 32 3 = nI pre.length → pre.length + p.length + 1 ≤ 24 →
    ∃ τ z, f_X0_find_lp31 (nI to) a4 fuel (nI e) σ = some (z, τ) ∧ nw_f nw_pY σ τ ∧ nw_rw (τ.1 34) (pre ++ e :: p) ∧ τ.1 32 3 = nI (pre ++ e :: p).length := by
  intro p
  have hn := hW.n
  induction p with
  | nil =>
    intro pre e fuel σ ha hf hC hD hx hr h3 hl
    obtain ⟨f, rfl, hg⟩ := nw_fe (k := 0) hf
    obtain ⟨f, rfl⟩ := nw_f0 hg
    obtain ⟨a1, a2, a3, a4'⟩ := ha
    have hb := hW.e a1
    have hf1 : nw_f nw_pY σ (jv_si (jv_si σ 34 pre.length (nI e)) 32 3 (nI (pre.length + 1))) := (nw_f.rfl.si (by rfl)).si (by rfl)
    rw [f_X0_find_lp31, if_neg (nw_nm1 (by omega)), h3, if_neg (show ¬ (24 : Int32) ≤ nI pre.length from nI_ge (b := 24) (by simp at hl; omega) (by omega)), nw_wr (by simp at hl; omega) (by omega), nw_gn (by decide), h3, nI_1, nw_head hW (hf1.keepC hC nw_pY_C) a1, a3, if_pos rfl, nw_bd, f_X0_find_lp31, if_pos rfl]
    refine ⟨_, _, rfl, hf1, ?_, ?_⟩
    · rw [nw_gn (by decide), nw_siu]; exact nw_rw_put hr
    · rw [nw_gs, List.length_append]; rfl
  | cons g p ih =>
    intro pre e fuel σ ha hf hC hD hx hr h3 hl
    obtain ⟨f, rfl, hg⟩ := nw_fe hf
    obtain ⟨a1, a2, a3, a4', a5, a6, a7⟩ := ha
    have hb := hW.e a1
    simp only [List.length_cons] at hl hg
    have hf1 : nw_f nw_pY σ (jv_si (jv_si σ 34 pre.length (nI e)) 32 3 (nI (pre.length + 1))) := (nw_f.rfl.si (by rfl)).si (by rfl)
    have hC1 := hf1.keepC hC nw_pY_C
    have hD1 := hf1.keepD hD (fun _ => rfl) (fun _ => rfl)
    have hx1 : nw_r24 33 (jv_si (jv_si σ 34 pre.length (nI e)) 32 3 (nI (pre.length + 1))) x := by
      unfold nw_r24
      rw [nw_gn (by decide), nw_gn (by decide)]
      exact hx
    obtain ⟨o, b1, b2⟩ := nw_best hW hC1 hD1 hx1 hxb hb.2.1 (bf := some e) (fun b hb => by cases hb; exact a1)
    have ho : o = some g := nw_bo_uniq (nw_bo_iff (fun f => nw_fo_oe) b2) a5
    subst ho
    rw [f_X0_find_lp31, if_neg (nw_nm1 (by omega)), h3, if_neg (show ¬ (24 : Int32) ≤ nI pre.length from nI_ge (b := 24) (by omega) (by omega)), nw_wr (by omega) (by omega), nw_gn (by decide), h3, nI_1, nw_head hW hC1 a1, if_neg (fun h => a3 ((nI_eq (by omega) (by omega)).mp h)), show f_X0_bestAfter _ (nI e) (nI (nw_e N e)) = _ from b1, nw_bd, nw_bd]
    obtain ⟨τ, z, k1, k2, k3, k4⟩ := ih (pre ++ [e]) g f _ a7 hg hC1 hD1 hx1 (by rw [nw_gn (by decide), nw_siu]; exact nw_rw_put hr) (by rw [nw_gs, List.length_append]; rfl) (by rw [List.length_append, List.length_singleton]; omega)
    have e1 : pre ++ e :: g :: p = pre ++ [e] ++ g :: p := by simp
    rw [e1]
    exact ⟨τ, z, k1, hf1.trans k2, k3, k4⟩
/-! the reference -/
def nw_pZ (k j : Nat) : Bool := (k == 35 && j == 43) || k == 60
theorem nw_pZ_M (k j : Nat) (h : nw_pM k j = true) : nw_pZ k j = false := by
  simp only [nw_pM, nw_pZ, Bool.or_eq_true, Bool.and_eq_true, beq_iff_eq, Bool.or_eq_false_iff, Bool.and_eq_false_iff, beq_eq_false_iff_ne] at h ⊢
  omega
theorem nw_nlp (hW : nw_W N) {σ : jv_S} (hM : nw_M N σ) {y : Nat → Nat} (hy : nw_r59 (nw_m N) σ y) (hyb : ∀ e, e < nw_m N → y e ≤ 1000000000) {e f left : Nat} (he : e < nw_m N) (hl : 0 < left) (hlb : left ≤ 1000000000) (hf : nw_fo N e f) (hfl : y f = left) (hno : ∀ g, g < f → nw_fo N e g → y g ≠ left) : ∀ (k j fuel : Nat), j + k = f → k < fuel → f_X8_nextOf_lp16 (nI e) (nI left) fuel (nI j) σ = some (.inl (nI f)) := by
  intro k
  have hn := hW.n
  have hfm := hf.1
  induction k with
  | zero =>
    intro j fuel hj hfu
    obtain ⟨fu, rfl⟩ := nw_f0 hfu
    have hj : j = f := by omega
    subst hj
    rw [f_X8_nextOf_lp16, hM.2.1, if_neg (nI_ge hfm (by omega)), if_neg (nI_nle hl (by omega)), nw_may hW hM he hfm, nw_bd, if_pos ((nw_fo_iff hfm).mpr hf), nw_ck (by omega) (by omega), if_pos rfl, nI_clamp (by omega), hy j hfm, if_pos (by rw [hfl])]
  | succ k ih =>
    intro j fuel hj hfu
    obtain ⟨fu, rfl, hg⟩ := nw_fe hfu
    have hjm : j < nw_m N := by omega
    rw [f_X8_nextOf_lp16, hM.2.1, if_neg (nI_ge hjm (by omega)), if_neg (nI_nle hl (by omega)), nw_may hW hM he hjm, nw_bd, nI_1]
    by_cases c : (nw_us N j && (nw_t N j == nw_e N e) && !nw_fb N e j) = true
    · rw [if_pos c, nw_ck (by omega) (by omega), if_pos rfl, nI_clamp (by omega), hy j hjm, if_neg (fun h => hno j (by omega) ((nw_fo_iff hjm).mp c) ((nI_eq (by have := hyb j hjm; omega) (by omega)).mp h))]
      exact ih (j + 1) fu (by omega) hg
    · rw [if_neg c]
      exact ih (j + 1) fu (by omega) hg
theorem nw_layl (hW : nw_W N) (hto : to < 10) {y : Nat → Nat} (hyb : ∀ e, e < nw_m N → y e ≤ 1000000000) {a3 : Int32} : ∀ (p pre : List Nat) (e fuel : Nat) (σ : jv_S), nw_aw N to y e p → p.length + 1 < fuel → nw_M N σ → nw_r59 (nw_m N) σ y → nw_rw (σ.1 60) pre → σ.1 35 43 = nI pre.length → pre.length + p.length + 1 ≤ 24 →
    ∃ τ z, f_X8_laysAllowed_lp93 a3 fuel (nI e) σ = some (z, τ) ∧ nw_f nw_pZ σ τ ∧ nw_rw (τ.1 60) (pre ++ e :: p) ∧ τ.1 35 43 = nI (pre ++ e :: p).length := by
  intro p
  have hn := hW.n
  induction p with
  | nil =>
    intro pre e fuel σ ha hf hM hy hr h3 hl
    obtain ⟨f, rfl, hg⟩ := nw_fe (k := 0) hf
    obtain ⟨f, rfl⟩ := nw_f0 hg
    obtain ⟨a1, a2, a3, a4'⟩ := ha
    have hb := hW.e a1
    have hf1 : nw_f nw_pZ σ (jv_si (jv_si σ 60 pre.length (nI e)) 35 43 (nI (pre.length + 1))) := (nw_f.rfl.si (by rfl)).si (by rfl)
    have hM1 := hf1.keepM hM nw_pZ_M
    have hre := hM1.2.2.1 e a1
    have hnx : f_X8_nextOf (jv_si (jv_si σ 60 pre.length (nI e)) 35 43 (nI (pre.length + 1))) (nI e) = some (-1 : Int32) := by
      unfold f_X8_nextOf
      have hy59 : (jv_si (jv_si σ 60 pre.length (nI e)) 35 43 (nI (pre.length + 1))).1 59 e = nI (y e) := by rw [nw_gn (by decide), nw_gn (by decide), hy e a1]
      rw [nw_ck (by omega) (by omega), if_pos rfl, if_pos rfl, nI_clamp (by omega), hy59, hre.2.2.1, a4', pk_sub (Nat.le_refl _), Nat.sub_self]
      obtain ⟨fu, hfu⟩ := nw_f0 (nw_fu (k := 0) (by omega))
      rw [hfu, f_X8_nextOf_lp16, hM1.2.1, if_neg (show ¬ nI (nw_m N) ≤ (0 : Int32) from nI_nle (by omega) (by omega)), if_pos (show nI 0 ≤ 0 by decide), nw_bd]
      rfl
    rw [f_X8_laysAllowed_lp93, if_neg (nw_nm1 (by omega)), h3, nw_ck (by simp at hl; omega) (by omega), if_pos rfl, nI_clamp (by simp at hl; omega), nI_1, hnx, nw_bd, f_X8_laysAllowed_lp93, if_pos rfl]
    refine ⟨_, _, rfl, hf1, ?_, ?_⟩
    · rw [nw_gn (by decide), nw_siu]; exact nw_rw_put hr
    · rw [nw_gs, List.length_append]; rfl
  | cons g p ih =>
    intro pre e fuel σ ha hf hM hy hr h3 hl
    obtain ⟨f, rfl, hg⟩ := nw_fe hf
    obtain ⟨a1, a2, a3, a4', a5, a6, a7⟩ := ha
    have hb := hW.e a1
    simp only [List.length_cons] at hl hg
    have hf1 : nw_f nw_pZ σ (jv_si (jv_si σ 60 pre.length (nI e)) 35 43 (nI (pre.length + 1))) := (nw_f.rfl.si (by rfl)).si (by rfl)
    have hM1 := hf1.keepM hM nw_pZ_M
    have hre := hM1.2.2.1 e a1
    have hy1 : nw_r59 (nw_m N) (jv_si (jv_si σ 60 pre.length (nI e)) 35 43 (nI (pre.length + 1))) y := by
      unfold nw_r59
      rw [nw_gn (by decide), nw_gn (by decide)]
      exact hy
    have hgp : 0 < y g := by
      cases p with
      | nil => have := a7.2.2.2; have := hW.e a7.1; omega
      | cons q p => have := a7.2.2.2.2.2.1; have := hW.e a7.1; omega
    have hnx : f_X8_nextOf (jv_si (jv_si σ 60 pre.length (nI e)) 35 43 (nI (pre.length + 1))) (nI e) = some (nI g) := by
      unfold f_X8_nextOf
      rw [nw_ck (by omega) (by omega), if_pos rfl, if_pos rfl, nI_clamp (by omega), hy1 e a1, hre.2.2.1, a6, pk_sub (by omega), Nat.add_sub_cancel_left]
      rw [show f_X8_nextOf_lp16 (nI e) (nI (y g)) jv_fuel (0 : Int32) _ = _ from nw_nlp hW hM1 hy1 hyb a1 hgp (by omega) a5.1 rfl (fun q hq hfo => by have := a5.2.2.2 q hfo hq; omega) g 0 jv_fuel (by omega) (nw_fu (by have := a5.1.1; omega)), nw_bd]
      rfl
    rw [f_X8_laysAllowed_lp93, if_neg (nw_nm1 (by omega)), h3, nw_ck (by omega) (by omega), if_pos rfl, nI_clamp (by omega), nI_1, hnx, nw_bd]
    obtain ⟨τ, z, k1, k2, k3, k4⟩ := ih (pre ++ [e]) g f _ a7 hg hM1 hy1 (by rw [nw_gn (by decide), nw_siu]; exact nw_rw_put hr) (by rw [nw_gs, List.length_append]; rfl) (by rw [List.length_append, List.length_singleton]; omega)
    have e1 : pre ++ e :: g :: p = pre ++ [e] ++ g :: p := by simp
    rw [e1]
    exact ⟨τ, z, k1, hf1.trans k2, k3, k4⟩
theorem nw_first (hW : nw_W N) {σ : jv_S} (hM : nw_M N σ) {y : Nat → Nat} (hy : nw_r59 (nw_m N) σ y) (hyb : ∀ e, e < nw_m N → y e ≤ 1000000000) {fr : Nat} (hfr : fr < 10) : ∀ (k j fuel : Nat) (o : Option Nat), j + k = nw_m N → k < fuel → nw_bo y (fun f => f < j ∧ nw_t N f = fr) o → ∃ o' z, f_X8_laysAllowed_lp22 (nI fr) fuel (nw_v1 o) (nI j) σ = some (nw_v1 o', z) ∧ nw_bo y (fun f => f < nw_m N ∧ nw_t N f = fr) o' := by
  intro k
  have hn := hW.n
  induction k with
  | zero =>
    intro j fuel o hj hf hb
    obtain ⟨f, rfl⟩ := nw_f0 hf
    have hj : j = nw_m N := by omega
    subst hj
    exact ⟨o, nI (nw_m N), by rw [f_X8_laysAllowed_lp22, hM.2.1, if_pos (nI_le (Nat.le_refl _) (by omega))], hb⟩
  | succ k ih =>
    intro j fuel o hj hf hb
    obtain ⟨f, rfl, hg⟩ := nw_fe hf
    have hjm : j < nw_m N := by omega
    have hbj := hW.e hjm
    have hr := hM.2.2.1 j hjm
    have hyj := hyb j hjm
    rw [f_X8_laysAllowed_lp22, hM.2.1, if_neg (nI_ge (by omega) (by omega)), nw_ck (by omega) (by omega), if_pos rfl, nI_clamp (by omega), hr.1, hy j hjm, nI_1]
    have hkeep : (nw_t N j = fr → nw_bx y o ≤ y j) → nw_bo y (fun f => f < j + 1 ∧ nw_t N f = fr) o := fun hc => by
      cases o with
      | none =>
        rintro g ⟨h1, h2⟩
        by_cases c : g = j
        · subst c; exact hc h2
        · exact hb g ⟨by omega, h2⟩
      | some b =>
        obtain ⟨q1, q2, q3, q4⟩ := hb
        refine ⟨⟨by omega, q1.2⟩, q2, fun g hg => ?_, fun g hg hlt => q4 g ⟨by omega, hg.2⟩ hlt⟩
        by_cases c : g = j
        · subst c; exact hc hg.2
        · exact q3 g ⟨by omega, hg.2⟩
    by_cases c : nw_t N j = fr
    · rw [if_pos (by rw [c]), if_pos rfl]
      by_cases c1 : 1000000000 ≤ y j
      · rw [if_pos (show (1000000000 : Int32) ≤ nI (y j) from nI_le (a := 1000000000) c1 (by omega)), nw_bd]
        refine ih (j + 1) f o (by omega) hg (hkeep (fun _ => ?_))
        cases o with
        | none => exact c1
        | some b => have := hb.2.1; show y b ≤ y j; omega
      · rw [if_neg (show ¬ (1000000000 : Int32) ≤ nI (y j) from nI_ge (b := 1000000000) (by omega) (by omega))]
        cases o with
        | none =>
          rw [if_pos (show nw_v1 none < 0 by decide), nw_bd]
          refine ih (j + 1) f (some j) (by omega) hg ⟨⟨by omega, c⟩, by omega, fun g hg => ?_, fun g hg hlt => ?_⟩
          · by_cases e : g = j
            · subst e; exact Nat.le_refl _
            · have := hb g ⟨by omega, hg.2⟩; omega
          · have := hb g ⟨by omega, hg.2⟩; omega
        | some b =>
          obtain ⟨q1, q2, q3, q4⟩ := hb
          have hbm : b < nw_m N := by omega
          rw [if_neg (show ¬ nw_v1 (some b) < 0 from nI_pos (by omega)), if_pos rfl, show nw_v1 (some b) = nI b from rfl, nw_ck (by omega) (by omega), if_pos rfl, nI_clamp (by omega), hy b hbm]
          by_cases c2 : y b ≤ y j
          · rw [if_pos (nI_le c2 (by omega)), nw_bd]
            exact ih (j + 1) f (some b) (by omega) hg (hkeep (fun _ => c2))
          · rw [if_neg (nI_ge (by omega) (by omega)), nw_bd]
            refine ih (j + 1) f (some j) (by omega) hg ⟨⟨by omega, c⟩, by omega, fun g hg => ?_, fun g hg hlt => ?_⟩
            · by_cases e : g = j
              · subst e; exact Nat.le_refl _
              · have := q3 g ⟨by omega, hg.2⟩; omega
            · have := q3 g ⟨by omega, hg.2⟩; omega
    · rw [if_neg (fun h => c ((nI_eq (by omega) (by omega)).mp h)), nw_bd]
      exact ih (j + 1) f o (by omega) hg (hkeep (fun h => absurd h c))
end NWE
def nw_pY2 (k j : Nat) : Bool := (k == 32 && j == 3) || k == 34 || k == 33
def nw_pZ2 (k j : Nat) : Bool := (k == 35 && j == 43) || k == 60 || k == 59
/-- both sides lay the same walk -/
theorem nw_allow {N : nw_N} (hW : nw_W N) {fr to : Nat} (hfr : fr < 10) (hto : to < 10) {σ : jv_S} (hC : nw_C0 N σ) (hD : nw_C1 N σ) : ∃ L p, L ≤ 1000000000 ∧ p.length ≤ 24 ∧ (∀ e ∈ p, e < 24) ∧
    (∃ τ, f_X0_find σ (nI fr) (nI to) = some (nI L, τ) ∧ nw_f nw_pY2 σ τ ∧ τ.1 32 3 = nI p.length ∧ nw_rw (τ.1 34) p) ∧
    ∀ ρ, nw_M N ρ → ∃ τ, f_X8_laysAllowed ρ (nI fr) (nI to) = some (nI L, τ) ∧ nw_f nw_pZ2 ρ τ ∧ τ.1 35 43 = nI p.length ∧ nw_rw (τ.1 60) p := by
  have hn := hW.n
  by_cases hft : fr = to
  · subst hft
    refine ⟨0, [], by omega, by simp, by simp, ⟨jv_si σ 32 3 (0 : Int32), ?_, nw_f.rfl.si (by rfl), by rw [nw_gs]; rfl, by intro i x hx; simp at hx⟩, fun ρ hM => ⟨jv_si ρ 35 43 (0 : Int32), ?_, nw_f.rfl.si (by rfl), by rw [nw_gs]; rfl, by intro i x hx; simp at hx⟩⟩
    · unfold f_X0_find; rw [if_pos rfl]; rfl
    · unfold f_X8_laysAllowed; rw [if_pos rfl]; rfl
  · have hne : ¬ nI fr = nI to := fun h => hft ((nI_eq (by omega) (by omega)).mp h)
    have hf0 : nw_f nw_pY σ (jv_si σ 32 3 (0 : Int32)) := nw_f.rfl.si (by rfl)
    obtain ⟨τ, x, g1, g2, g3, g4, g5⟩ := nw_ameas hW hto (hf0.keepC hC nw_pY_C) (hf0.keepD hD (fun _ => rfl) (fun _ => rfl))
    have hC1 := nw_keepC3 g2 (hf0.keepC hC nw_pY_C)
    have hD1 := nw_keepD3 g2 (hf0.keepD hD (fun _ => rfl) (fun _ => rfl))
    have hA : nw_ad N to (nw_m N) x := ⟨fun i hi => g5.1 i (by omega), fun i h L hi hR => g5.2 i h L (by omega) hR⟩
    obtain ⟨o, b1, b2⟩ := nw_best hW hC1 hD1 g3 g4 hfr (bf := none) (fun b hb => by cases hb)
    have b3 : nw_bo x (fun f => f < nw_m N ∧ nw_t N f = fr) o := by
      have hmem : ∀ f, (f ∈ nw_oe N fr ∧ nw_al2 N none f = true) ↔ f < nw_m N ∧ nw_t N f = fr ∧ nw_us N f = true := fun f => by
        rw [nw_oe_mem]; exact ⟨fun h => h.1, fun h => ⟨h, rfl⟩⟩
      cases o with
      | none =>
        rintro f ⟨h1, h2⟩
        by_cases c : x f < 1000000000
        · exact b2 f ((hmem f).mpr ⟨h1, h2, nw_ad_us hA h1 c⟩)
        · omega
      | some b =>
        obtain ⟨q1, q2, q3, q4⟩ := b2
        have q1' := (hmem b).mp q1
        refine ⟨⟨q1'.1, q1'.2.1⟩, q2, fun f hf => ?_, fun f hf hlt => ?_⟩
        · by_cases c : x f < 1000000000
          · exact q3 f ((hmem f).mpr ⟨hf.1, hf.2, nw_ad_us hA hf.1 c⟩)
          · omega
        · by_cases c : x f < 1000000000
          · exact q4 f ((hmem f).mpr ⟨hf.1, hf.2, nw_ad_us hA hf.1 c⟩) hlt
          · omega
    have hlenF := nw_lenF g3 b2 (fun f hf => by have := (nw_oe_mem.mp hf.1).1; omega)
    have hft2 : nw_f nw_pY2 σ τ := (hf0.mono (fun k j h => by
      simp only [nw_pY, nw_pY2, Bool.or_eq_false_iff] at h ⊢; exact h.1)).trans (g2.mono (fun k j h => by
      simp only [nw_r, nw_pY2, Bool.or_eq_false_iff] at h ⊢; exact h.2))
    have t3 : τ.1 32 3 = nI 0 := by rw [g2.row (by decide), nw_gs]; rfl
    -- the reference, whatever its store
    have href : ∀ ρ, nw_M N ρ → ∃ τ y, f_X8_laysRests (jv_si ρ 35 43 (0 : Int32)) (nI to) = some τ ∧ nw_f nw_pZ2 ρ τ ∧ nw_M N τ ∧ τ.1 35 43 = nI 0 ∧ nw_r59 (nw_m N) τ y ∧ (∀ e, e < nw_m N → y e = x e) ∧ ∃ z, f_X8_laysAllowed_lp22 (nI fr) jv_fuel (-1 : Int32) (0 : Int32) τ = some (nw_v1 o, z) := fun ρ hM => by
      have hf5 : nw_f nw_pZ ρ (jv_si ρ 35 43 (0 : Int32)) := nw_f.rfl.si (by rfl)
      obtain ⟨τ2, y, r1, r2, r3, r4⟩ := nw_rests hW hto (hf5.keepM hM nw_pZ_M)
      have hM2 := nw_keepM9 r2 (hf5.keepM hM nw_pZ_M)
      have hxy : ∀ e, e < nw_m N → y e = x e := fun e he => bf_uniq r4.1 hA.1 r4.2 hA.2 he
      have hyb : ∀ e, e < nw_m N → y e ≤ 1000000000 := fun e he => (r4.1 e he).1
      obtain ⟨o', z, w1, w2⟩ := nw_first hW hM2 r3 hyb hfr (nw_m N) 0 jv_fuel none (by omega) (nw_fu (by omega)) (fun f hf => absurd hf.1 (Nat.not_lt_zero _))
      have ho : o' = o := nw_bo_uniq (nw_bo_congr (fun f hf => hxy f hf.1) w2) b3
      subst ho
      refine ⟨τ2, y, r1, (hf5.mono (fun k j h => ?_)).trans (r2.mono (fun k j h => ?_)), hM2, by rw [r2.row (by decide), nw_gs]; rfl, r3, hxy, z, w1⟩
      · simp only [nw_pZ, nw_pZ2, Bool.or_eq_false_iff] at h ⊢; exact h.1
      · simp only [nw_r, nw_pZ2, Bool.or_eq_false_iff] at h ⊢; exact h.2
    cases o with
    | none =>
      refine ⟨1000000000, [], Nat.le_refl _, by simp, by simp, ⟨τ, ?_, hft2, t3, by intro i x hx; simp at hx⟩, fun ρ hM => ?_⟩
      · unfold f_X0_find
        rw [if_neg hne, g1, nw_bd, show f_X0_bestAfter τ (-1 : Int32) (nI fr) = _ from b1, nw_bd, hlenF]
        obtain ⟨fu, hfu⟩ := nw_f0 (nw_fu (k := 0) (by omega))
        rw [hfu, f_X0_find_lp31, if_pos (show nw_v1 none = (-1 : Int32) from rfl), nw_bd]
        rfl
      · obtain ⟨τ2, y, r1, r2, r3, r4, r5, r6, z, r7⟩ := href ρ hM
        refine ⟨τ2, ?_, r2, r4, by intro i x hx; simp at hx⟩
        unfold f_X8_laysAllowed
        rw [if_neg hne, r1, nw_bd, r7, nw_bd, if_neg (show ¬ 0 ≤ nw_v1 none by decide)]
        rfl
    | some b =>
      have hbm := b3.1.1
      obtain ⟨p, p1, p2⟩ := nw_aw_len hW hA hbm b3.2.1
      have hmem := nw_aw_m p b p1
      refine ⟨x b, b :: p, g4 b, by rw [List.length_cons]; exact p2, fun e he => by have := hmem e he; omega, ?_, fun ρ hM => ?_⟩
      · obtain ⟨τ2, z, k1, k2, k3, k4⟩ := nw_findl hW hto (a4 := nI (x b)) g4 p [] b jv_fuel τ p1 (nw_fu (by omega)) hC1 hD1 g3 (by intro i x hx; simp at hx) t3 (by simp; omega)
        rw [List.nil_append] at k3 k4
        refine ⟨τ2, ?_, hft2.trans (k2.mono (fun k j h => ?_)), k4, k3⟩
        · unfold f_X0_find
          rw [if_neg hne, g1, nw_bd, show f_X0_bestAfter τ (-1 : Int32) (nI fr) = _ from b1, nw_bd, hlenF, show f_X0_find_lp31 (nI to) (nI (nw_bx x (some b))) jv_fuel (nw_v1 (some b)) τ = _ from k1, nw_bd]
          rfl
        · simp only [nw_pY, nw_pY2, Bool.or_eq_false_iff] at h ⊢; exact h.1
      · obtain ⟨τ2, y, r1, r2, r3, r4, r5, r6, z, r7⟩ := href ρ hM
        have hawc : ∀ (q : List Nat) (e : Nat), nw_aw N to x e q → nw_aw N to y e q := fun q => by
          induction q with
          | nil => intro e h; exact ⟨h.1, h.2.1, h.2.2.1, by rw [r6 e h.1]; exact h.2.2.2⟩
          | cons f q ihq =>
            intro e h
            obtain ⟨a1, a2, a3, a4, a5, a6, a7⟩ := h
            exact ⟨a1, a2, a3, by rw [r6 e a1]; exact a4, nw_bo_congr (fun g hg => (r6 g hg.1).symm) a5, by rw [r6 e a1, r6 f a5.1.1]; exact a6, ihq f a7⟩
        obtain ⟨τ3, z2, k1, k2, k3, k4⟩ := nw_layl hW hto (y := y) (fun e he => by rw [r6 e he]; exact g4 e) (a3 := nI b) p [] b jv_fuel τ2 (hawc p b p1) (nw_fu (by omega)) r3 r5 (by intro i x hx; simp at hx) r4 (by simp; omega)
        rw [List.nil_append] at k3 k4
        refine ⟨τ3, ?_, r2.trans (k2.mono (fun k j h => ?_)), k4, k3⟩
        · unfold f_X8_laysAllowed
          rw [if_neg hne, r1, nw_bd, r7, nw_bd, if_pos (show 0 ≤ nw_v1 (some b) from nI_pos' (by omega)), show f_X8_laysAllowed_lp93 (nw_v1 (some b)) jv_fuel (nw_v1 (some b)) τ2 = _ from k1, nw_bd, show nw_v1 (some b) = nI b from rfl, nw_ck (by omega) (by omega), if_pos rfl, nI_clamp (by omega), (k2.lng (k := 59) (fun _ => rfl)).1, r5 b hbm, r6 b hbm]
        · simp only [nw_pZ, nw_pZ2, Bool.or_eq_false_iff] at h ⊢; exact h.1
