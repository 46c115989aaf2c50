/-! ===== the first allowed walk is laid ===== -/
def nw_aw (N : nw_N) (to : Nat) (D : Nat → Nat) : Nat → List Nat → Prop
  | e, [] => e < nw_m N ∧ nw_us N e = true ∧ nw_e N e = to ∧ D e = nw_l N e
  | e, f :: p => e < nw_m N ∧ nw_us N e = true ∧ nw_e N e ≠ to ∧ D e < 1000000000 ∧ nw_bo D (nw_fo N e) (some f) ∧ D e = nw_l N e + D f ∧ nw_aw N to D f p
theorem nw_bo_congr {x y : Nat → Nat} {S : Nat → Prop} {o : Option Nat} (h : ∀ f, S f → x f = y f) (hb : nw_bo x S o) : nw_bo y S o := by
  cases o with
  | none => exact fun f hf => by rw [← h f hf]; exact hb f hf
  | some b =>
    obtain ⟨h1, h2, h3, h4⟩ := hb
    refine ⟨h1, by rw [← h b h1]; exact h2, fun f hf => ?_, fun f hf hlt => ?_⟩
    · rw [← h b h1, ← h f hf]; exact h3 f hf
    · rw [← h b h1, ← h f hf]; exact h4 f hf hlt
theorem nw_bo_iff {x : Nat → Nat} {S S' : Nat → Prop} {o : Option Nat} (h : ∀ f, S f ↔ S' f) (hb : nw_bo x S o) : nw_bo x S' o := by
  have : S = S' := funext fun f => propext (h f)
  rw [← this]; exact hb
theorem nw_bo_ex {x : Nat → Nat} {S : Nat → Prop} : ∀ n : Nat, (∀ f, S f → f < n) → ∃ o, nw_bo x S o := by
  have : ∀ n : Nat, ∃ o, nw_bo x (fun f => S f ∧ f < n) o := fun n => by
    induction n with
    | zero => exact ⟨none, fun f hf => absurd hf.2 (Nat.not_lt_zero _)⟩
    | succ n ih =>
      obtain ⟨o, ho⟩ := ih
      by_cases c : S n ∧ x n < nw_bx x o
      · refine ⟨some n, ⟨c.1, Nat.lt_succ_self n⟩, ?_, fun f hf => ?_, fun f hf hlt => ?_⟩
        · cases o with
          | none => exact c.2
          | some b => have := ho.2.1; have := c.2; have e : nw_bx x (some b) = x b := rfl; omega
        · by_cases e : f = n
          · subst e; exact Nat.le_refl _
          · cases o with
            | none => have := ho f ⟨hf.1, by omega⟩; have c2 : x n < 1000000000 := c.2; omega
            | some b => have := ho.2.2.1 f ⟨hf.1, by omega⟩; have c2 : x n < x b := c.2; omega
        · cases o with
          | none => have := ho f ⟨hf.1, hlt⟩; have c2 : x n < 1000000000 := c.2; omega
          | some b => have := ho.2.2.1 f ⟨hf.1, hlt⟩; have c2 : x n < x b := c.2; omega
      · refine ⟨o, ?_⟩
        cases o with
        | none =>
          intro f hf
          by_cases e : f = n
          · subst e
            by_cases c2 : x f < 1000000000
            · exact absurd ⟨hf.1, c2⟩ c
            · omega
          · exact ho f ⟨hf.1, by omega⟩
        | some b =>
          obtain ⟨q1, q2, q3, q4⟩ := ho
          refine ⟨⟨q1.1, by omega⟩, q2, fun f hf => ?_, fun f hf hlt => q4 f ⟨hf.1, by omega⟩ hlt⟩
          by_cases e : f = n
          · subst e
            by_cases c2 : x f < x b
            · exact absurd ⟨hf.1, c2⟩ c
            · omega
          · exact q3 f ⟨hf.1, by omega⟩
  intro n hn
  obtain ⟨o, ho⟩ := this n
  exact ⟨o, nw_bo_iff (fun f => ⟨fun h => h.1, fun h => ⟨h, hn f h⟩⟩) ho⟩
section NWE
variable {N : nw_N} {to : Nat} {D : Nat → Nat}
theorem nw_ad_us (hA : nw_ad N to (nw_m N) D) {e : Nat} (he : e < nw_m N) (h : D e < 1000000000) : nw_us N e = true := by
  obtain ⟨k, hR⟩ := (hA.1 e he).2 h
  cases k with
  | zero => exact hR.2.1
  | succ k => obtain ⟨w, j, L, ha, -, -⟩ := hR; exact ha.2.1
theorem nw_ad_b (hA : nw_ad N to (nw_m N) D) {e L h : Nat} (hR : bf_R (nw_bb N to) (nw_ba2 N) e h L) : nw_l N e ≤ L := by
  cases h with
  | zero => have := hR.2.2.2; omega
  | succ h => obtain ⟨w, j, L', ha, -, e1⟩ := hR; have := ha.2.2.2; omega
theorem nw_ad_to (hW : nw_W N) (hA : nw_ad N to (nw_m N) D) {e : Nat} (he : e < nw_m N) (hu : nw_us N e = true) (ht : nw_e N e = to) : D e = nw_l N e := by
  have hb := hW.e he
  have h1 := hA.2 e 0 _ he (bf_R.base ⟨he, hu, ht, rfl⟩)
  obtain ⟨k, hR⟩ := (hA.1 e he).2 (by omega)
  have := nw_ad_b hA hR
  omega
theorem nw_ad_nx (hA : nw_ad N to (nw_m N) D) {e : Nat} (he : e < nw_m N) (hu : nw_us N e = true) (ht : nw_e N e ≠ to) (h : D e < 1000000000) {o : Option Nat} (hb : nw_bo D (nw_fo N e) o) : ∃ f, o = some f ∧ D e = nw_l N e + D f := by
  obtain ⟨k, hR⟩ := (hA.1 e he).2 h
  cases k with
  | zero => exact absurd hR.2.2.1 ht
  | succ k =>
    obtain ⟨w, j, L, ha, hR', e1⟩ := hR
    have hw := ha.2.2.2
    have hj := hA.2 j k L ha.2.2.1.1 hR'
    cases o with
    | none => have := hb j ha.2.2.1; omega
    | some b =>
      refine ⟨b, rfl, ?_⟩
      have h1 := hb.2.2.1 j ha.2.2.1
      obtain ⟨k2, hR2⟩ := (hA.1 b hb.1.1).2 hb.2.1
      have h2 := hA.2 e (k2 + 1) _ he (bf_R.step ⟨he, hu, hb.1, rfl⟩ hR2)
      omega
theorem nw_aw_ex (hW : nw_W N) (hA : nw_ad N to (nw_m N) D) : ∀ (d e : Nat), e < nw_m N → D e = d → d < 1000000000 → ∃ p, nw_aw N to D e p ∧ p.length ≤ (List.range' 0 (nw_m N)).countP (fun g => decide (D g < D e)) := by
  intro d
  induction d using Nat.strongRecOn with
  | _ d ih =>
    intro e he hd hlt
    have hu := nw_ad_us hA he (by omega)
    by_cases ht : nw_e N e = to
    · exact ⟨[], ⟨he, hu, ht, nw_ad_to hW hA he hu ht⟩, Nat.zero_le _⟩
    · obtain ⟨o, ho⟩ := nw_bo_ex (x := D) (S := nw_fo N e) (nw_m N) (fun f hf => hf.1)
      obtain ⟨f, rfl, hf⟩ := nw_ad_nx hA he hu ht (by omega) ho
      have hb := hW.e he
      obtain ⟨p, p1, p2⟩ := ih (D f) (by omega) f ho.1.1 rfl (by omega)
      refine ⟨f :: p, ⟨he, hu, ht, by omega, ho, hf, p1⟩, ?_⟩
      have : (List.range' 0 (nw_m N)).countP (fun g => decide (D g < D f)) < (List.range' 0 (nw_m N)).countP (fun g => decide (D g < D e)) := by
        refine bf_clt (y := f) (fun g _ hg => ?_) (by rw [nw_rgm]; have := ho.1.1; omega) (by simp; omega) (by simp)
        simp only [decide_eq_true_eq] at hg ⊢
        omega
      rw [List.length_cons]
      omega
theorem nw_aw_len (hW : nw_W N) (hA : nw_ad N to (nw_m N) D) {e : Nat} (he : e < nw_m N) (h : D e < 1000000000) : ∃ p, nw_aw N to D e p ∧ p.length + 1 ≤ 24 := by
  obtain ⟨p, p1, p2⟩ := nw_aw_ex hW hA _ e he rfl h
  have h1 : (List.range' 0 (nw_m N)).countP (fun g => decide (D g < D e)) < (List.range' 0 (nw_m N)).countP (fun _ => true) := bf_clt (y := e) (fun _ _ _ => rfl) (by rw [nw_rgm]; omega) rfl (by simp)
  have h2 := List.countP_le_length (p := fun _ => true) (l := List.range' 0 (nw_m N))
  rw [List.length_range'] at h2
  have := hW.n
  exact ⟨p, p1, by omega⟩
theorem nw_aw_m : ∀ (p : List Nat) (e : Nat), nw_aw N to D e p → ∀ x ∈ e :: p, x < nw_m N := by
  intro p
  induction p with
  | nil => intro e h x hx; rw [List.mem_singleton.mp hx]; exact h.1
  | cons f p ih =>
    intro e h x hx
    rcases List.mem_cons.mp hx with rfl | hx
    · exact h.1
    · exact ih f h.2.2.2.2.2.2 x hx
def nw_pY (k j : Nat) : Bool := (k == 32 && j == 3) || k == 34
theorem nw_pY_C (k j : Nat) (h : nw_pC k j = true) : nw_pY k j = false := by
  simp only [nw_pC, nw_pY, Bool.or_eq_true, Bool.and_eq_true, beq_iff_eq, Bool.or_eq_false_iff, Bool.and_eq_false_iff, beq_eq_false_iff_ne] at h ⊢
  omega
theorem nw_rw_put {f : Nat → Int32} {pre : List Nat} {e : Nat} (h : nw_rw f pre) : nw_rw (upd f pre.length (nI e)) (pre ++ [e]) := by
  rw [nw_rw_app]
  refine ⟨fun i x hx => ?_, fun i x hx => ?_⟩
  · have := (List.getElem?_eq_some_iff.mp hx).1
    rw [pk_un (by omega)]
    exact h i x hx
  · cases i with
    | zero =>
      simp only [List.getElem?_cons_zero, Option.some.injEq] at hx
      subst hx
      exact pk_us
    | succ i => simp at hx
theorem nw_siu {σ : jv_S} {k j : Nat} {x : Int32} : (jv_si σ k j x).1 k = upd (σ.1 k) j x := by simp [jv_si, jv_u]
theorem nw_findl (hW : nw_W N) (hto : to < 10) {x : Nat → Nat} {a4 : Int32} (hxb : ∀ e, x e ≤ 1000000000) : ∀ (p pre : List Nat) (e fuel : Nat) (σ : jv_S), nw_aw N to x e p → p.length + 1 < fuel → nw_C0 N σ → nw_C1 N σ → nw_r24 33 σ x → nw_rw (σ.1 34) pre → σ.1 32 3 = nI pre.length → pre.length + p.length + 1 ≤ 24 →
    ∃ τ z, f_X0_find_lp31 (nI to) a4 fuel (nI e) σ = some (z, τ) ∧ nw_f nw_pY σ τ ∧ nw_rw (τ.1 34) (pre ++ e :: p) ∧ τ.1 32 3 = nI (pre ++ e :: p).length := by
  intro p
  have hn := hW.n
  induction p with
  | nil =>
    intro pre e fuel σ ha hf hC hD hx hr h3 hl
    obtain ⟨f, rfl, hg⟩ := nw_fe (k := 0) hf
    obtain ⟨f, rfl⟩ := nw_f0 hg
    obtain ⟨a1, a2, a3, a4'⟩ := ha
    have hb := hW.e a1
    have hf1 : nw_f nw_pY σ (jv_si (jv_si σ 34 pre.length (nI e)) 32 3 (nI (pre.length + 1))) := (nw_f.rfl.si (by rfl)).si (by rfl)
    rw [f_X0_find_lp31, if_neg (nw_nm1 (by omega)), h3, if_neg (show ¬ (24 : Int32) ≤ nI pre.length from nI_ge (b := 24) (by simp at hl; omega) (by omega)), nw_wr (by simp at hl; omega) (by omega), nw_gn (by decide), h3, nI_1, nw_head hW (hf1.keepC hC nw_pY_C) a1, a3, if_pos rfl, nw_bd, f_X0_find_lp31, if_pos rfl]
    refine ⟨_, _, rfl, hf1, ?_, ?_⟩
    · rw [nw_gn (by decide), nw_siu]; exact nw_rw_put hr
    · rw [nw_gs, List.length_append]; rfl
  | cons g p ih =>
    intro pre e fuel σ ha hf hC hD hx hr h3 hl
    obtain ⟨f, rfl, hg⟩ := nw_fe hf
    obtain ⟨a1, a2, a3, a4', a5, a6, a7⟩ := ha
    have hb := hW.e a1
    simp only [List.length_cons] at hl hg
    have hf1 : nw_f nw_pY σ (jv_si (jv_si σ 34 pre.length (nI e)) 32 3 (nI (pre.length + 1))) := (nw_f.rfl.si (by rfl)).si (by rfl)
    have hC1 := hf1.keepC hC nw_pY_C
    have hD1 := hf1.keepD hD (fun _ => rfl) (fun _ => rfl)
    have hx1 : nw_r24 33 (jv_si (jv_si σ 34 pre.length (nI e)) 32 3 (nI (pre.length + 1))) x := by
      unfold nw_r24
      rw [nw_gn (by decide), nw_gn (by decide)]
      exact hx
    obtain ⟨o, b1, b2⟩ := nw_best hW hC1 hD1 hx1 hxb hb.2.1 (bf := some e) (fun b hb => by cases hb; exact a1)
    have ho : o = some g := nw_bo_uniq (nw_bo_iff (fun f => nw_fo_oe) b2) a5
    subst ho
    rw [f_X0_find_lp31, if_neg (nw_nm1 (by omega)), h3, if_neg (show ¬ (24 : Int32) ≤ nI pre.length from nI_ge (b := 24) (by omega) (by omega)), nw_wr (by omega) (by omega), nw_gn (by decide), h3, nI_1, nw_head hW hC1 a1, if_neg (fun h => a3 ((nI_eq (by omega) (by omega)).mp h)), show f_X0_bestAfter _ (nI e) (nI (nw_e N e)) = _ from b1, nw_bd, nw_bd]
    obtain ⟨τ, z, k1, k2, k3, k4⟩ := ih (pre ++ [e]) g f _ a7 hg hC1 hD1 hx1 (by rw [nw_gn (by decide), nw_siu]; exact nw_rw_put hr) (by rw [nw_gs, List.length_append]; rfl) (by rw [List.length_append, List.length_singleton]; omega)
    have e1 : pre ++ e :: g :: p = pre ++ [e] ++ g :: p := by simp
    rw [e1]
    exact ⟨τ, z, k1, hf1.trans k2, k3, k4⟩
/-! the reference -/
def nw_pZ (k j : Nat) : Bool := (k == 35 && j == 43) || k == 60
theorem nw_pZ_M (k j : Nat) (h : nw_pM k j = true) : nw_pZ k j = false := by
  simp only [nw_pM, nw_pZ, Bool.or_eq_true, Bool.and_eq_true, beq_iff_eq, Bool.or_eq_false_iff, Bool.and_eq_false_iff, beq_eq_false_iff_ne] at h ⊢
  omega
end NWE
def nw_pY2 (k j : Nat) : Bool := (k == 32 && j == 3) || k == 34 || k == 33
def nw_pZ2 (k j : Nat) : Bool := (k == 35 && j == 43) || k == 60 || k == 59