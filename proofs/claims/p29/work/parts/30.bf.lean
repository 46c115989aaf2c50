theorem bf_cle {l : List Nat} {p q : Nat → Bool} (h : ∀ x ∈ l, p x = true → q x = true) : l.countP p ≤ l.countP q := by
  induction l with
  | nil => exact Nat.le_refl _
  | cons a t ih =>
    have h1 := ih (fun x hx => h x (List.mem_cons_of_mem _ hx))
    have h2 := h a List.mem_cons_self
    rw [List.countP_cons, List.countP_cons]
    by_cases hp : p a = true
    · rw [if_pos hp, if_pos (h2 hp)]; omega
    · rw [if_neg hp]; omega
theorem bf_clt {l : List Nat} {p q : Nat → Bool} (h : ∀ x ∈ l, p x = true → q x = true) {y : Nat} (hy : y ∈ l) (hq : q y = true) (hp : ¬ p y = true) : l.countP p < l.countP q := by
  induction l with
  | nil => cases hy
  | cons a t ih =>
    have h1 := bf_cle (fun x hx => h x (List.mem_cons_of_mem _ hx))
    have h2 := h a List.mem_cons_self
    rw [List.countP_cons, List.countP_cons]
    rcases List.mem_cons.mp hy with e | e
    · subst e
      rw [if_neg hp, if_pos hq]; omega
    · have h3 := ih (fun x hx => h x (List.mem_cons_of_mem _ hx)) e
      by_cases hp : p a = true
      · rw [if_pos hp, if_pos (h2 hp)]; omega
      · rw [if_neg hp]; omega
/-- index, hops, length: a way out of the base by arcs -/
def bf_r (base : Nat → Nat → Prop) (arc : Nat → Nat → Nat → Prop) : Nat → Nat → Nat → Prop
  | 0, i, L => base i L
  | h + 1, i, L => ∃ w j L', arc i w j ∧ bf_r base arc h j L' ∧ L = w + L'
def bf_R (base : Nat → Nat → Prop) (arc : Nat → Nat → Nat → Prop) (i h L : Nat) : Prop := bf_r base arc h i L
theorem bf_R.base {base : Nat → Nat → Prop} {arc : Nat → Nat → Nat → Prop} {i L : Nat} (h : base i L) : bf_R base arc i 0 L := h
theorem bf_R.step {base : Nat → Nat → Prop} {arc : Nat → Nat → Nat → Prop} {i w j h L : Nat} (ha : arc i w j) (hR : bf_R base arc j h L) : bf_R base arc i (h + 1) (w + L) := ⟨w, j, L, ha, hR, rfl⟩
section BF
variable {base : Nat → Nat → Prop} {arc : Nat → Nat → Nat → Prop} {N : Nat}
def bf_B (base : Nat → Nat → Prop) (arc : Nat → Nat → Nat → Prop) (i h L : Nat) : Prop := bf_R base arc i h L ∧ ∀ h' L', bf_R base arc i h' L' → L < L' ∨ (L = L' ∧ h ≤ h')
theorem bf_best {i : Nat} : ∀ (L h : Nat), bf_R base arc i h L → ∃ h' L', bf_B base arc i h' L' := by
  intro L
  induction L using Nat.strongRecOn with
  | _ L ih =>
    intro h
    induction h using Nat.strongRecOn with
    | _ h ih2 =>
      intro hR
      by_cases hb : ∀ h' L', bf_R base arc i h' L' → L < L' ∨ (L = L' ∧ h ≤ h')
      · exact ⟨h, L, hR, hb⟩
      · simp only [Classical.not_forall] at hb
        obtain ⟨h', L', hR', hn⟩ := hb
        by_cases e : L' < L
        · exact ih L' e h' hR'
        · have e1 : L' = L := by omega
          subst e1
          exact ih2 h' (by omega) hR'
/-- the best way's rest is best -/
theorem bf_tail {i h L : Nat} (hB : bf_B base arc i h L) : (h = 0 ∧ base i L) ∨ ∃ w j h' L', arc i w j ∧ bf_B base arc j h' L' ∧ L = w + L' ∧ h = h' + 1 := by
  obtain ⟨hR, hm⟩ := hB
  cases h with
  | zero => exact Or.inl ⟨rfl, hR⟩
  | succ h =>
    obtain ⟨w, j, L, ha, hR, rfl⟩ := hR
    refine Or.inr ⟨w, j, h, L, ha, ⟨hR, fun h' L' hR' => ?_⟩, rfl, rfl⟩
    have := hm _ _ (bf_R.step ha hR')
    omega
noncomputable def bf_rk (base : Nat → Nat → Prop) (arc : Nat → Nat → Nat → Prop) (N h L : Nat) : Nat := (List.range N).countP (fun j => @decide (∃ h' L', bf_B base arc j h' L' ∧ (L' < L ∨ (L' = L ∧ h' < h))) (Classical.propDecidable _))
theorem bf_rk_lt {h L h' L' j : Nat} (hj : j < N) (hB : bf_B base arc j h' L') (hl : L' < L ∨ (L' = L ∧ h' < h)) : bf_rk base arc N h' L' < bf_rk base arc N h L := by
  refine bf_clt (y := j) (fun x _ hx => ?_) (List.mem_range.mpr hj) (@decide_eq_true _ (Classical.propDecidable _) ⟨h', L', hB, hl⟩) (fun hx => ?_)
  · obtain ⟨h2, L2, hB2, hl2⟩ := @of_decide_eq_true _ (Classical.propDecidable _) hx
    exact @decide_eq_true _ (Classical.propDecidable _) ⟨h2, L2, hB2, by omega⟩
  · obtain ⟨h2, L2, hB2, hl2⟩ := @of_decide_eq_true _ (Classical.propDecidable _) hx
    have h3 := hB2.2 _ _ hB.1
    have h4 := hB.2 _ _ hB2.1
    omega
theorem bf_rk_top {i h L : Nat} (hi : i < N) (hB : bf_B base arc i h L) : bf_rk base arc N h L < N := by
  have h1 : (List.range N).countP (fun _ => true) = N := by simp
  have h2 : bf_rk base arc N h L < (List.range N).countP (fun _ => true) := by
    refine bf_clt (y := i) (fun _ _ _ => rfl) (List.mem_range.mpr hi) rfl (fun hx => ?_)
    obtain ⟨h2, L2, hB2, hl2⟩ := @of_decide_eq_true _ (Classical.propDecidable _) hx
    have h3 := hB.2 _ _ hB2.1
    omega
  omega
/-- after so many rounds -/
def bf_S (base : Nat → Nat → Prop) (arc : Nat → Nat → Nat → Prop) (N : Nat) (x : Nat → Nat) (k : Nat) : Prop := ∀ i h L, i < N → bf_B base arc i h L → bf_rk base arc N h L ≤ k → x i ≤ L
theorem bf_S0 {x : Nat → Nat} (hbase : ∀ i L, i < N → base i L → x i ≤ L) (harc : ∀ i w j, i < N → arc i w j → j < N) : bf_S base arc N x 0 := by
  intro i h L hi hB hr
  rcases bf_tail hB with ⟨-, hb⟩ | ⟨w, j, h', L', ha, hB', e1, e2⟩
  · exact hbase i L hi hb
  · have := bf_rk_lt (N := N) (h := h) (L := L) (harc i w j hi ha) hB' (by omega)
    omega
theorem bf_S1 {x x' : Nat → Nat} {k : Nat} (hS : bf_S base arc N x k) (hle : ∀ i, i < N → x' i ≤ x i) (hbase : ∀ i L, i < N → base i L → x i ≤ L) (harc : ∀ i w j, i < N → arc i w j → j < N ∧ x' i ≤ w + x j) : bf_S base arc N x' (k + 1) := by
  intro i h L hi hB hr
  rcases bf_tail hB with ⟨-, hb⟩ | ⟨w, j, h', L', ha, hB', e1, e2⟩
  · exact Nat.le_trans (hle i hi) (hbase i L hi hb)
  · obtain ⟨hj, hx⟩ := harc i w j hi ha
    have h1 := bf_rk_lt (N := N) (h := h) (L := L) hj hB' (by omega)
    have h2 := hS j h' L' hj hB' (by omega)
    omega
/-- all settled -/
def bf_C (base : Nat → Nat → Prop) (arc : Nat → Nat → Nat → Prop) (N : Nat) (x : Nat → Nat) : Prop := ∀ i h L, i < N → bf_R base arc i h L → x i ≤ L
theorem bf_top {x : Nat → Nat} {k : Nat} (hS : bf_S base arc N x k) (hk : N ≤ k + 1) : bf_C base arc N x := by
  intro i h L hi hR
  obtain ⟨h', L', hB⟩ := bf_best L h hR
  have h1 := hS i h' L' hi hB (by have := bf_rk_top (N := N) hi hB; omega)
  have h2 := hB.2 _ _ hR
  omega
theorem bf_fix {x : Nat → Nat} (hbase : ∀ i L, i < N → base i L → x i ≤ L) (harc : ∀ i w j, i < N → arc i w j → j < N ∧ x i ≤ w + x j) : bf_C base arc N x := by
  intro i h
  induction h generalizing i with
  | zero => intro L hi hR; exact hbase _ _ hi hR
  | succ h ih =>
    intro L hi hR
    obtain ⟨w, j, L, ha, hR, rfl⟩ := hR
    obtain ⟨hj, hx⟩ := harc _ _ _ hi ha
    have := ih j L hj hR
    omega
/-- each entry below F is reached -/
def bf_V (base : Nat → Nat → Prop) (arc : Nat → Nat → Nat → Prop) (N F : Nat) (x : Nat → Nat) : Prop := ∀ i, i < N → x i ≤ F ∧ (x i < F → ∃ h, bf_R base arc i h (x i))
theorem bf_uniq {x y : Nat → Nat} {F i : Nat} (hx : bf_V base arc N F x) (hy : bf_V base arc N F y) (cx : bf_C base arc N x) (cy : bf_C base arc N y) (hi : i < N) : x i = y i := by
  obtain ⟨a1, a2⟩ := hx i hi
  obtain ⟨b1, b2⟩ := hy i hi
  by_cases e1 : x i < F
  · obtain ⟨h, hR⟩ := a2 e1
    have c1 := cy i h _ hi hR
    obtain ⟨h', hR'⟩ := b2 (by omega)
    have c2 := cx i h' _ hi hR'
    omega
  · by_cases e2 : y i < F
    · obtain ⟨h', hR'⟩ := b2 e2
      have c2 := cx i h' _ hi hR'
      omega
    · omega
/-- a best way has fewer arcs than there are indices -/
theorem bf_hops (harc : ∀ i w j, i < N → arc i w j → j < N) : ∀ (h i L : Nat), i < N → bf_B base arc i h L → h ≤ bf_rk base arc N h L := by
  intro h
  induction h with
  | zero => intro i L _ _; exact Nat.zero_le _
  | succ h ih =>
    intro i L hi hB
    rcases bf_tail hB with ⟨e, -⟩ | ⟨w, j, h', L', ha, hB', e1, e2⟩
    · omega
    · have e3 : h = h' := by omega
      subst e3
      have h1 := ih j L' (harc i w j hi ha) hB'
      have h2 := bf_rk_lt (N := N) (h := h + 1) (L := L) (harc i w j hi ha) hB' (by omega)
      omega
theorem bf_hops_lt (harc : ∀ i w j, i < N → arc i w j → j < N) {h i L : Nat} (hi : i < N) (hB : bf_B base arc i h L) : h < N := by
  have h1 := bf_hops harc h i L hi hB
  have h2 := bf_rk_top hi hB
  omega
/-- ways of bounded arcs are bounded -/
theorem bf_len {m0 m1 : Nat} (hb : ∀ i L, base i L → L ≤ m0) (ha : ∀ i w j, arc i w j → w ≤ m1) : ∀ {h i L : Nat}, bf_R base arc i h L → L ≤ m0 + h * m1 := by
  intro h
  induction h with
  | zero => intro i L hR; have := hb _ _ hR; omega
  | succ h ih =>
    intro i L hR
    obtain ⟨w, j, L, h1, hR, rfl⟩ := hR
    have h2 := ha _ _ _ h1
    have h3 := ih hR
    rw [Nat.add_mul]
    omega
end BF
