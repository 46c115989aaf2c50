/-! ===== paths: how many there are at most, how long they are, the shortest one ===== -/
theorem nx_cadd {α : Type} {A B C : α → Bool} : ∀ l : List α, (∀ x ∈ l, A x = true → C x = true) → (∀ x ∈ l, B x = true → C x = true) → (∀ x ∈ l, ¬ (A x = true ∧ B x = true)) → l.countP A + l.countP B ≤ l.countP C := by
  intro l
  induction l with
  | nil => intro _ _ _; simp
  | cons a l ih =>
    intro h1 h2 h3
    have := ih (fun x hx => h1 x (List.mem_cons_of_mem _ hx)) (fun x hx => h2 x (List.mem_cons_of_mem _ hx)) (fun x hx => h3 x (List.mem_cons_of_mem _ hx))
    have k1 := h1 a List.mem_cons_self
    have k2 := h2 a List.mem_cons_self
    have k3 := h3 a List.mem_cons_self
    rw [List.countP_cons, List.countP_cons, List.countP_cons]
    cases hA : A a <;> cases hB : B a <;> cases hC : C a <;> simp_all <;> omega
theorem nx_flen {α β : Type} {g : α → List β} {c : Nat} : ∀ l : List α, (∀ e ∈ l, (g e).length ≤ c) → (l.flatMap g).length ≤ l.length * c := by
  intro l
  induction l with
  | nil => intro _; simp
  | cons a l ih =>
    intro h
    have h1 := h a List.mem_cons_self
    have h2 := ih (fun x hx => h x (List.mem_cons_of_mem _ hx))
    rw [List.flatMap_cons, List.length_append, List.length_cons, Nat.succ_mul]
    omega
theorem nx_lt2 : ∀ n : Nat, n ≤ 2 ^ n := fun n => Nat.le_of_lt Nat.lt_two_pow_self
def nx_S (N : nw_N) (to : Nat) (V : Nat → Bool) : Nat := (List.range' 0 (nw_m N)).countP (fun e => nw_us N e && !V (nw_t N e) && !(nw_t N e == to))
theorem nx_oel {N : nw_N} {v : Nat} : (nw_oe N v).length = (List.range' 0 (nw_m N)).countP (fun e => nw_t N e == v && nw_us N e) := by
  unfold nw_oe; rw [← List.countP_eq_length_filter]
theorem nx_ppb {N : nw_N} {to : Nat} : ∀ (f : Nat) (V : Nat → Bool) (v : Nat), (nw_pp N to f V v).length ≤ (nw_oe N v).length * 2 ^ nx_S N to V := by
  intro f
  induction f with
  | zero => intro V v; exact Nat.zero_le _
  | succ f ih =>
    intro V v
    rw [nw_pp_s]
    refine nx_flen _ (fun e he => ?_)
    unfold nw_br
    have h1 : 1 ≤ 2 ^ nx_S N to V := Nat.one_le_two_pow
    by_cases c1 : nw_e N e = to
    · rw [if_pos c1]; exact h1
    · rw [if_neg c1]
      by_cases c2 : V (nw_e N e) = true
      · rw [if_pos c2]; exact Nat.zero_le _
      · rw [if_neg c2, List.length_map]
        refine Nat.le_trans (ih _ _) ?_
        have h2 : nx_S N to (fun w => V w || w == nw_e N e) + (nw_oe N (nw_e N e)).length ≤ nx_S N to V := by
          rw [nx_oel]
          refine nx_cadd _ (fun x _ hx => ?_) (fun x _ hx => ?_) (fun x _ hx => ?_)
          · simp only [Bool.and_eq_true, Bool.not_eq_true', Bool.or_eq_false_iff] at hx ⊢
            exact ⟨⟨hx.1.1, hx.1.2.1⟩, hx.2⟩
          · simp only [Bool.and_eq_true, Bool.not_eq_true', beq_iff_eq, beq_eq_false_iff_ne] at hx ⊢
            rw [hx.1]
            exact ⟨⟨hx.2, by simpa using c2⟩, c1⟩
          · simp only [Bool.and_eq_true, Bool.not_eq_true', Bool.or_eq_false_iff, beq_iff_eq, beq_eq_false_iff_ne] at hx
            exact hx.1.1.2.2 hx.2.1
        calc (nw_oe N (nw_e N e)).length * 2 ^ nx_S N to (fun w => V w || w == nw_e N e)
            ≤ 2 ^ (nw_oe N (nw_e N e)).length * 2 ^ nx_S N to (fun w => V w || w == nw_e N e) := Nat.mul_le_mul_right _ (nx_lt2 _)
          _ = 2 ^ ((nw_oe N (nw_e N e)).length + nx_S N to (fun w => V w || w == nw_e N e)) := by rw [Nat.pow_add]
          _ ≤ 2 ^ nx_S N to V := Nat.pow_le_pow_right (by omega) (by omega)
theorem nx_apb {N : nw_N} (hW : nw_W N) {fr to : Nat} : (nw_ap N fr to).length ≤ 2 ^ 24 := by
  have hn := hW.n
  unfold nw_ap
  refine Nat.le_trans (nx_ppb _ _ _) ?_
  have h2 : nx_S N to (fun w => w == fr) + (nw_oe N fr).length ≤ (List.range' 0 (nw_m N)).countP (fun _ => true) := by
    rw [nx_oel]
    refine nx_cadd _ (fun x _ hx => rfl) (fun x _ hx => rfl) (fun x _ hx => ?_)
    simp only [Bool.and_eq_true, Bool.not_eq_true', beq_iff_eq, beq_eq_false_iff_ne] at hx
    exact hx.1.1.2 hx.2.1
  rw [List.countP_true, List.length_range'] at h2
  calc (nw_oe N fr).length * 2 ^ nx_S N to (fun w => w == fr)
      ≤ 2 ^ (nw_oe N fr).length * 2 ^ nx_S N to (fun w => w == fr) := Nat.mul_le_mul_right _ (nx_lt2 _)
    _ = 2 ^ ((nw_oe N fr).length + nx_S N to (fun w => w == fr)) := by rw [Nat.pow_add]
    _ ≤ 2 ^ 24 := Nat.pow_le_pow_right (by omega) (by omega)
/-- fewer edges than nodes -/
def nx_cvn (n to : Nat) (V : Nat → Bool) : Nat := (List.range' 0 n).countP (fun w => !V w && !(w == to))
theorem nx_plen {N : nw_N} (hW : nw_W N) {to : Nat} : ∀ (f : Nat) (V : Nat → Bool) (v : Nat) (q : List Nat), q ∈ nw_pp N to f V v → q.length ≤ nx_cvn (nw_n N) to V + 1 := by
  intro f
  induction f with
  | zero => intro V v q h; simp [nw_pp] at h
  | succ f ih =>
    intro V v q h
    rw [nw_pp_s, List.mem_flatMap] at h
    obtain ⟨e, he, hq⟩ := h
    unfold nw_br at hq
    by_cases c1 : nw_e N e = to
    · rw [if_pos c1] at hq
      rw [List.mem_singleton.mp hq]
      simp
    · rw [if_neg c1] at hq
      by_cases c2 : V (nw_e N e) = true
      · rw [if_pos c2] at hq; simp at hq
      · rw [if_neg c2] at hq
        obtain ⟨q', hq', rfl⟩ := List.mem_map.mp hq
        have h1 := ih _ _ q' hq'
        have hu := (hW.e (nw_oe_mem.mp he).1).2.2.2.1
        have h2 : nx_cvn (nw_n N) to (fun w => V w || w == nw_e N e) < nx_cvn (nw_n N) to V := by
          refine bf_clt (fun x _ hx => ?_) (y := nw_e N e) (by rw [nw_rgm]; omega) ?_ ?_
          · simp only [Bool.and_eq_true, Bool.not_eq_true', Bool.or_eq_false_iff] at hx ⊢
            exact ⟨hx.1.1, hx.2⟩
          · simp [c1]; simpa using c2
          · simp
        rw [List.length_cons]
        omega
theorem nx_aplen {N : nw_N} (hW : nw_W N) {fr to : Nat} (hfr : fr < nw_n N) (hto : to < nw_n N) (hne : fr ≠ to) {q : List Nat} (h : q ∈ nw_ap N fr to) : q.length < nw_n N := by
  have h1 := nx_plen hW _ _ _ q h
  have h2 : nx_cvn (nw_n N) to (fun w => w == fr) + (List.range' 0 (nw_n N)).countP (fun w => w == fr || w == to) ≤ (List.range' 0 (nw_n N)).countP (fun _ => true) := by
    refine nx_cadd _ (fun x _ hx => rfl) (fun x _ hx => rfl) (fun x _ hx => ?_)
    simp only [Bool.and_eq_true, Bool.not_eq_true', Bool.or_eq_true, beq_iff_eq, beq_eq_false_iff_ne] at hx
    rcases hx.2 with h | h
    · exact hx.1.1 h
    · exact hx.1.2 h
  have h3 : (List.range' 0 (nw_n N)).countP (fun w => w == fr) + (List.range' 0 (nw_n N)).countP (fun w => w == to) ≤ (List.range' 0 (nw_n N)).countP (fun w => w == fr || w == to) := by
    refine nx_cadd _ (fun x _ hx => by simp only [Bool.or_eq_true]; exact Or.inl hx) (fun x _ hx => by simp only [Bool.or_eq_true]; exact Or.inr hx) (fun x _ hx => ?_)
    simp only [beq_iff_eq] at hx
    exact hne (hx.1.symm.trans hx.2)
  have h4 : 0 < (List.range' 0 (nw_n N)).countP (fun w => w == fr) := List.countP_pos_iff.mpr ⟨fr, by rw [nw_rgm]; omega, by simp⟩
  have h5 : 0 < (List.range' 0 (nw_n N)).countP (fun w => w == to) := List.countP_pos_iff.mpr ⟨to, by rw [nw_rgm]; omega, by simp⟩
  rw [List.countP_true, List.length_range'] at h2
  omega
/-- a shortest way as a path -/
theorem nx_step {N : nw_N} (hW : nw_W N) {to : Nat} {x : Nat → Nat} (hx : nw_ds N to x) {v : Nat} (hv : v < 10) (hlt : x v < 1000000000) (hne : v ≠ to) : ∃ e, e < nw_m N ∧ nw_us N e = true ∧ nw_t N e = v ∧ x v = nw_l N e + x (nw_e N e) := by
  obtain ⟨h, hR⟩ := (hx.1 v hv).2 hlt
  cases h with
  | zero => exact absurd hR.1 hne
  | succ h =>
    obtain ⟨w, u, L', ha, hR', e1⟩ := hR
    obtain ⟨hv2, hu2, hw1, hw2⟩ := nw_arcb hW ha
    have h1 : x u ≤ L' := hx.2 u h L' hu2 hR'
    obtain ⟨h3, hR3⟩ := (hx.1 u hu2).2 (by omega)
    have h2 : x v ≤ w + x u := hx.2 v (h3 + 1) _ hv (bf_R.step ha hR3)
    obtain ⟨e, he1, he2, he3, he4, he5⟩ := ha
    exact ⟨e, he1, he2, he3, by rw [he4]; omega⟩
theorem nx_ds0 {N : nw_N} {to : Nat} {x : Nat → Nat} (hx : nw_ds N to x) (hto : to < 10) : x to = 0 := by
  have := hx.2 to 0 0 hto ⟨rfl, rfl⟩
  omega
theorem nx_sp {N : nw_N} (hW : nw_W N) {to : Nat} (hto : to < 10) {x : Nat → Nat} (hx : nw_ds N to x) : ∀ (d v f : Nat) (V : Nat → Bool), x v ≤ d → v < 10 → x v < 1000000000 → v ≠ to → nw_cv to V < f → V to = false → (∀ w, w < 10 → V w = true → x v ≤ x w) → ∃ q, q ∈ nw_pp N to f V v ∧ nw_sl N q = x v := by
  intro d
  induction d with
  | zero =>
    intro v f V hd hv hlt hne hf hVt hV
    obtain ⟨e, he1, he2, he3, he4⟩ := nx_step hW hx hv hlt hne
    have := (hW.e he1).2.2.2.2.2.1
    omega
  | succ d ih =>
    intro v f V hd hv hlt hne hf hVt hV
    obtain ⟨e, he1, he2, he3, he4⟩ := nx_step hW hx hv hlt hne
    have hb := hW.e he1
    obtain ⟨f', rfl⟩ : ∃ f', f = f' + 1 := ⟨f - 1, by omega⟩
    have hmem : e ∈ nw_oe N v := nw_oe_mem.mpr ⟨he1, he3, he2⟩
    rw [nw_pp_s]
    by_cases c1 : nw_e N e = to
    · refine ⟨[e], List.mem_flatMap.mpr ⟨e, hmem, ?_⟩, ?_⟩
      · unfold nw_br; rw [if_pos c1]; exact List.mem_singleton.mpr rfl
      · rw [c1, nx_ds0 hx hto] at he4
        show nw_l N e + 0 = x v
        omega
    · have c2 : V (nw_e N e) = false := by
        cases hVe : V (nw_e N e)
        · rfl
        · have := hV _ hb.2.1 hVe; omega
      obtain ⟨q, hq1, hq2⟩ := ih (nw_e N e) f' (fun w => V w || w == nw_e N e) (by omega) hb.2.1 (by omega) c1 (by have := nw_cv_lt hb.2.1 c2 c1; omega) (by simp [hVt]; exact fun h => c1 h.symm) (fun w hw hVw => by
        simp only [Bool.or_eq_true, beq_iff_eq] at hVw
        rcases hVw with h | h
        · have := hV w hw h; omega
        · rw [h]; exact Nat.le_refl _)
      refine ⟨e :: q, List.mem_flatMap.mpr ⟨e, hmem, ?_⟩, ?_⟩
      · unfold nw_br
        rw [if_neg c1, if_neg (by rw [c2]; decide)]
        exact List.mem_map.mpr ⟨q, hq1, rfl⟩
      · show nw_l N e + nw_sl N q = x v
        omega
theorem nx_apsp {N : nw_N} (hW : nw_W N) {fr to : Nat} (hfr : fr < 10) (hto : to < 10) (hne : fr ≠ to) {x : Nat → Nat} (hx : nw_ds N to x) (hlt : x fr < 1000000000) : ∃ q, q ∈ nw_ap N fr to ∧ nw_sl N q = x fr := by
  unfold nw_ap
  refine nx_sp hW hto hx (x fr) fr 9 (fun w => w == fr) (Nat.le_refl _) hfr hlt hne (nw_cv0 hfr hto hne) (by simp; exact fun h => hne h.symm) (fun w hw h => ?_)
  simp only [beq_iff_eq] at h
  rw [h]; exact Nat.le_refl _
theorem nx_apge {N : nw_N} (hW : nw_W N) {fr to : Nat} (hfr : fr < 10) {x : Nat → Nat} (hx : nw_ds N to x) {q : List Nat} (h : q ∈ nw_ap N fr to) : x fr ≤ nw_sl N q ∧ nw_sl N q ≤ 9000 ∧ 0 < q.length ∧ q.length ≤ 9 ∧ (∀ e ∈ q, e < nw_m N) := by
  obtain ⟨h1, h2, h3, h4, k, h5⟩ := nw_pp_ok hW _ _ _ q h
  exact ⟨hx.2 fr k _ hfr h5, by omega, h2, h1, h3⟩
theorem nx_sl1 {N : nw_N} (hW : nw_W N) : ∀ q : List Nat, (∀ e ∈ q, e < nw_m N) → q.length ≤ nw_sl N q := by
  intro q
  induction q with
  | nil => intro _; exact Nat.le_refl _
  | cons e q ih =>
    intro h
    have h1 := ih (fun x hx => h x (List.mem_cons_of_mem _ hx))
    have h2 := (hW.e (h e List.mem_cons_self)).2.2.2.2.2.1
    show q.length + 1 ≤ nw_l N e + nw_sl N q
    omega
/-! ===== ranks ===== -/
theorem nx_c1 {α : Type} {A B : α → Bool} {p : α} : ∀ l : List α, l.Pairwise (fun a b => a ≠ b) → p ∈ l → A p = false → (∀ q ∈ l, B q = true ↔ (A q = true ∨ q = p)) → l.countP B = l.countP A + 1 := by
  intro l
  induction l with
  | nil => intro _ h; cases h
  | cons a l ih =>
    intro hl hp hA hB
    rw [List.pairwise_cons] at hl
    rw [List.countP_cons, List.countP_cons]
    have hBa := hB a List.mem_cons_self
    rcases List.mem_cons.mp hp with rfl | hp'
    · have hBp : B p = true := hBa.mpr (Or.inr rfl)
      rw [if_pos hBp, if_neg (by rw [hA]; decide)]
      have : l.countP B = l.countP A := List.countP_congr (fun q hq => by
        rw [hB q (List.mem_cons_of_mem _ hq)]
        exact ⟨fun h => h.elim id (fun h => absurd h.symm (hl.1 q hq)), Or.inl⟩)
      omega
    · have hne : a ≠ p := hl.1 p hp'
      have h1 := ih hl.2 hp' hA (fun q hq => hB q (List.mem_cons_of_mem _ hq))
      have h2 : B a = A a := by
        cases hAa : A a
        · cases hBb : B a
          · rfl
          · rcases hBa.mp hBb with h | h
            · rw [hAa] at h; cases h
            · exact absurd h hne
        · exact hBa.mpr (Or.inl hAa)
      rw [h1, h2]
      omega
theorem nw_keyp {N : nw_N} {p : List Nat} (h : 0 < p.length) : 0 < nw_key N p := by
  cases p with
  | nil => simp at h
  | cons e p =>
    have h1 : nw_dg 9 (e :: p) = (e + 1) * 32 ^ 8 + nw_dg 8 p := rfl
    have h2 : 1 * 32 ^ 8 ≤ (e + 1) * 32 ^ 8 := Nat.mul_le_mul_right _ (by omega)
    have h3 : 0 < 32 ^ 8 := by decide
    unfold nw_key
    omega
section NXR
variable {N : nw_N} {fr to : Nat}
theorem nx_lx_irr : ∀ q : List Nat, ¬ nw_lx q q := by
  intro q
  induction q with
  | nil => exact fun h => h
  | cons a q ih =>
    intro h
    rcases h with h | ⟨-, h⟩
    · exact Nat.lt_irrefl _ h
    · exact ih h
theorem nx_apnd (hW : nw_W N) : (nw_ap N fr to).Pairwise (fun a b => a ≠ b) := (nw_ap_gp hW (to := to) (fr := fr)).1.imp (fun {a b} h e => by subst e; exact nx_lx_irr _ h)
theorem nx_rank_le {cur : Nat} : nx_rank N fr to cur ≤ (nw_ap N fr to).length := List.countP_le_length
theorem nx_rank0 (hW : nw_W N) : nx_rank N fr to 0 = 0 := by
  unfold nx_rank
  rw [List.countP_eq_zero]
  intro q hq h
  have h1 := ((nw_ap_gp hW (to := to) (fr := fr)).2 q hq).2.1
  have h2 := nw_keyp (N := N) h1
  simp only [decide_eq_true_eq] at h
  omega
theorem nx_rank_s (hW : nw_W N) {cur : Nat} {q : List Nat} (hq : q ∈ nw_ap N fr to) (h1 : cur < nw_key N q) (h2 : ∀ q' ∈ nw_ap N fr to, cur < nw_key N q' → nw_key N q ≤ nw_key N q') : nx_rank N fr to (nw_key N q) = nx_rank N fr to cur + 1 := by
  unfold nx_rank
  refine nx_c1 _ (nx_apnd hW) hq (by simp; omega) (fun q' hq' => ?_)
  simp only [decide_eq_true_eq]
  constructor
  · intro h
    by_cases c : nw_key N q' ≤ cur
    · exact Or.inl c
    · right
      have := h2 q' hq' (by omega)
      exact nw_key_inj (N := N) (nw_ap_gp hW) hq' hq (by omega)
  · rintro (h | h)
    · omega
    · rw [h]; exact Nat.le_refl _
theorem nx_rank_top {cur : Nat} (h : ∀ q ∈ nw_ap N fr to, ¬ cur < nw_key N q) : nx_rank N fr to cur = (nw_ap N fr to).length := by
  unfold nx_rank
  rw [List.countP_eq_length]
  intro q hq
  have := h q hq
  simp only [decide_eq_true_eq]
  omega
theorem nx_rank_lt {q q' : List Nat} (hq' : q' ∈ nw_ap N fr to) (h : nw_key N q < nw_key N q') : nx_rank N fr to (nw_key N q) < nx_rank N fr to (nw_key N q') := by
  unfold nx_rank
  have h1 := nx_cadd (A := fun z => decide (nw_key N z ≤ nw_key N q)) (B := fun z => decide (z = q')) (C := fun z => decide (nw_key N z ≤ nw_key N q')) (nw_ap N fr to) (fun x _ hx => by simp only [decide_eq_true_eq] at hx ⊢; omega) (fun x _ hx => by simp only [decide_eq_true_eq] at hx ⊢; rw [hx]; exact Nat.le_refl _) (fun x _ hx => by
    simp only [decide_eq_true_eq] at hx
    rw [hx.2] at hx; omega)
  have h2 : 0 < (nw_ap N fr to).countP (fun z => decide (z = q')) := List.countP_pos_iff.mpr ⟨q', hq', by simp⟩
  omega
theorem nx_kth_u (hW : nw_W N) {k : Nat} {q q' : List Nat} (h : nx_kth N fr to k q) (h' : nx_kth N fr to k q') : q = q' := by
  refine nw_key_inj (N := N) (nw_ap_gp hW) h.1 h'.1 ?_
  have h1 := h.2
  have h2 := h'.2
  rcases Nat.lt_trichotomy (nw_key N q) (nw_key N q') with c | c | c
  · have := nx_rank_lt h'.1 c; omega
  · exact c
  · have := nx_rank_lt h.1 c; omega
theorem nx_kth_lt {k : Nat} {q : List Nat} (h : nx_kth N fr to k q) : k < (nw_ap N fr to).length := by
  have h1 := h.2
  have h2 := nx_rank_le (N := N) (fr := fr) (to := to) (cur := nw_key N q)
  omega
theorem nx_cur_r (hW : nw_W N) {k cur : Nat} (h : nx_cur N fr to k cur) : nx_rank N fr to cur = k := by
  rcases h with ⟨h1, h2⟩ | ⟨q, j, h1, h2, h3⟩
  · rw [h1, h2, nx_rank0 hW]
  · rw [h3, h2.2, h1]
theorem nx_cur_u (hW : nw_W N) {k cur cur' : Nat} (h : nx_cur N fr to k cur) (h' : nx_cur N fr to k cur') : cur = cur' := by
  rcases h with ⟨h1, h2⟩ | ⟨q, j, h1, h2, h3⟩ <;> rcases h' with ⟨g1, g2⟩ | ⟨q', j', g1, g2, g3⟩
  · omega
  · omega
  · omega
  · have hj : j = j' := by omega
    subst hj
    rw [h3, g3, nx_kth_u hW h2 g2]
end NXR
