/-! ===== words of the functions that the methods are turned into; the leaves that take rows of any kind ===== -/
def jv_b (b : Bool) : Int32 := if b then 1 else 0
theorem jv_b0 {b : Bool} (h : jv_b b = 0) : ¬ b = true := by cases b <;> simp_all [jv_b]
theorem jv_b1 {b : Bool} (h : ¬ jv_b b = 0) : b = true := by cases b <;> simp_all [jv_b]
theorem jv_narb (b : Bool) : vp_nar .boolean (jv_b b) = jv_b b := by cases b <;> decide
theorem jv_narw (b : Bool) : narrow .boolean (.int (jv_b b)) = .int (jv_b b) := by cases b <;> decide
theorem jv_okZ (b : Bool) : jv_ok (some .boolean) (some (.int (jv_b b))) := ⟨_, rfl, jv_narw b⟩
theorem jv_okI (v : Int32) : jv_ok (some .int) (some (.int v)) := ⟨_, rfl, rfl⟩
theorem jv_okJ (v : Int64) : jv_ok (some .long) (some (.long v)) := rfl
theorem jv_okV : jv_ok none none := rfl
def jv_ob (x : Int32) : Option Bool := if x = 0 then some false else if x = 1 then some true else none
theorem jv_ob_eq {x : Int32} {q : Bool} (h : jv_ob x = some q) : x = jv_b q := by
  unfold jv_ob at h
  split at h
  · cases h; assumption
  · split at h
    · cases h; assumption
    · cases h
def jv_bd {α β : Type} (x : Option α) (f : α → Option β) : Option β := match x with
  | none => none
  | some a => f a
theorem jv_bd_some {α β : Type} {x : Option α} {f : α → Option β} {r : β} (h : jv_bd x f = some r) : ∃ q, x = some q ∧ f q = some r := by
  cases x with
  | none => cases h
  | some a => exact ⟨a, rfl, h⟩
def jv_lt {α β : Type} (x : α) (f : α → β) : β := f x
theorem jv_lt_eq {α β : Type} {x : α} {f : α → β} {r : β} (h : jv_lt x f = r) : ∃ q, x = q ∧ f q = r := ⟨x, rfl, h⟩
def jv_xe {α β : Type} (x : Except String α) (f : String → β) (g : α → β) : β := match x with
  | .error e => f e
  | .ok a => g a
theorem jv_xe_or {α β : Type} {x : Except String α} {f : String → β} {g : α → β} {r : β} (h : jv_xe x f g = r) : (∃ e, x = .error e ∧ f e = r) ∨ ∃ q, x = .ok q ∧ g q = r := by
  cases x with
  | error e => exact Or.inl ⟨e, rfl, h⟩
  | ok a => exact Or.inr ⟨a, rfl, h⟩
/-- an index in range -/
def jv_ck (i : Int32) (n : Nat) : Bool := decide (0 ≤ i.toInt) && decide (i.toInt < n)
theorem jv_ck_in {i : Int32} {n : Nat} (h : jv_ck i n = true) : vp_in i n := by
  simp only [jv_ck, Bool.and_eq_true, decide_eq_true_eq] at h
  exact vp_in_iff.mpr h
/-- a row read and written by way of a look at its index -/
def jv_rd {α : Type} (f : Nat → α) (n : Nat) (z : α) (p : Int32) : α := if p < 0 then z else if nI n ≤ p then z else f p.toNatClampNeg
def jv_wr (σ : jv_S) (k n : Nat) (p v : Int32) : jv_S := if p < 0 then σ else if nI n ≤ p then σ else jv_si σ k p.toNatClampNeg v
def jv_wrl (σ : jv_S) (k n : Nat) (p : Int32) (v : Int64) : jv_S := if p < 0 then σ else if nI n ≤ p then σ else jv_sl σ k p.toNatClampNeg v
def jv_fl (σ : jv_S) (k n : Nat) (v : Int32) : jv_S := (jv_u σ.1 k (fun j => if j < n then v else σ.1 k j), σ.2)
def jv_min (a b : Int32) : Int32 := if b < a then b else a
theorem jv_fuel_ex : ∃ n : Nat, 1000000000000000000000000000000 ≤ n := ⟨1000000000000000000000000000000, Nat.le_refl _⟩
noncomputable def jv_fuel : Nat := Classical.choose jv_fuel_ex
theorem jv_fuel_le : 1000000000000000000000000000000 ≤ jv_fuel := Classical.choose_spec jv_fuel_ex
/-- less known of the locals -/
def jv_fg : List (Option Value) → List Bool → List (Option Value)
  | x :: t, true :: m => x :: jv_fg t m
  | _ :: t, false :: m => none :: jv_fg t m
  | _, _ => []
theorem jv_fg_at : ∀ (L : List (Option Value)) (m : List Bool) (i : Nat) (v : Value), (jv_fg L m)[i]? = some (some v) → L[i]? = some (some v) := by
  intro L
  induction L with
  | nil => intro m i v h; simp [jv_fg] at h
  | cons x t ih =>
    intro m i v h
    cases m with
    | nil => simp [jv_fg] at h
    | cons b m =>
      cases b
      · cases i with
        | zero => simp [jv_fg] at h
        | succ i =>
          simp only [jv_fg, List.getElem?_cons_succ] at h ⊢
          exact ih m i v h
      · cases i with
        | zero =>
          simp only [jv_fg, List.getElem?_cons_zero] at h ⊢
          exact h
        | succ i =>
          simp only [jv_fg, List.getElem?_cons_succ] at h ⊢
          exact ih m i v h
theorem jv_weak {E : jv_E} {pc : Nat} {L L' : List (Option Value)} {st : List Value} {σ : jv_S} (h : ∀ (i : Nat) (v : Value), L'[i]? = some (some v) → L[i]? = some (some v)) (k : jv_V E pc L' st σ) : jv_V E pc L st σ := by
  obtain ⟨p, l, e, R, s, m, args, below, meth, c, cells, slots, Q, G⟩ := E
  intro H locs ls hP hS hl
  refine k H locs ls hP hS ⟨hl.1, hl.2.1, fun q hq => hl.2.2 q ?_⟩
  obtain ⟨i, v, rfl, hi⟩ := (jv_lst_mem L' 0 _).mp hq
  exact (jv_lst_mem L 0 _).mpr ⟨i, v, rfl, h i v hi⟩
theorem jv_forget {E : jv_E} {pc : Nat} {L : List (Option Value)} {st : List Value} {σ : jv_S} (m : List Bool) (k : jv_V E pc (jv_fg L m) st σ) : jv_V E pc L st σ := jv_weak (jv_fg_at L m) k
theorem jv_topI {E : jv_E} {pc : Nat} {L : List (Option Value)} {st : List Value} {σ : jv_S} {x y : Int32} (h : x = y) (k : jv_V E pc L (.int y :: st) σ) : jv_V E pc L (.int x :: st) σ := h ▸ k
theorem jv_in_of {x : Int32} {n : Nat} (hn : n < 2 ^ 31) (h0 : ¬ x < 0) (h : ¬ nI n ≤ x) : vp_in x n := by
  rcases pk_ix x hn with h1 | h1 | ⟨j, h1, rfl⟩
  · exact absurd h1 h0
  · exact absurd h1 h
  · exact vp_in_nI h1 hn
section JVLEAF
variable {G : jv_G} {l : Launch} {σ : jv_S} {k n : Nat}
theorem ok_X7_at {p r : Int32} (hn : n < 2 ^ 31) (hk : jv_os[k]? = some (.inr (0, n))) (h : jv_rd (σ.1 k) n 0 p = r) : jv_Cn G l 1 M_X7_at [.ref k, .int p] σ (some (.int r)) σ := by
  refine jv_of (L0 := [some (.ref k), some (.int p)]) (by decide +kernel) (Nat.le_of_ble_eq_true rfl) rfl (jv_okI _) (fun E e1 e2 hE hret => ?_)
  unfold jv_rd at h
  refine jv_iload_n (x := p) hE dX7_at_0 rfl 1 rfl rfl ?_
  refine jv_if_lt hE dX7_at_1 (tgt := 16) (by decide) rfl (fun c1 => ?_) (fun c1 => ?_)
  · rw [if_pos c1] at h
    cases h
    refine jv_iconst (v := 0) hE dX7_at_16 rfl (by decide) ?_
    exact hret _ _ dX7_at_17
  · rw [if_neg c1] at h
    refine jv_iload_n (x := p) hE dX7_at_4 rfl 1 rfl rfl ?_
    refine jv_aload_n (x := k) hE dX7_at_5 rfl 0 rfl rfl ?_
    refine jv_alen hE dX7_at_6 rfl hk (v := nI n) rfl ?_
    refine jv_icmp_ge hE dX7_at_7 (tgt := 16) (by decide) rfl (fun c2 => ?_) (fun c2 => ?_)
    · rw [if_pos c2] at h
      cases h
      refine jv_iconst (v := 0) hE dX7_at_16 rfl (by decide) ?_
      exact hret _ _ dX7_at_17
    · rw [if_neg c2] at h
      refine jv_aload_n (x := k) hE dX7_at_10 rfl 0 rfl rfl ?_
      refine jv_iload_n (x := p) hE dX7_at_11 rfl 1 rfl rfl ?_
      refine jv_iald hE dX7_at_12 rfl hk (jv_in_of hn c1 c2) ?_
      refine jv_goto hE dX7_at_13 (tgt := 17) (by decide) ?_
      rw [h]
      exact hret _ _ dX7_at_17
theorem ok_X7_at_ {p : Int32} {r : Int64} (hn : n < 2 ^ 31) (hk : jv_os[k]? = some (.inr (2, n))) (h : jv_rd (σ.2 k) n 0 p = r) : jv_Cn G l 1 M_X7_at_ [.ref k, .int p] σ (some (.long r)) σ := by
  refine jv_of (L0 := [some (.ref k), some (.int p)]) (by decide +kernel) (Nat.le_of_ble_eq_true rfl) rfl (jv_okJ _) (fun E e1 e2 hE hret => ?_)
  unfold jv_rd at h
  refine jv_iload_n (x := p) hE dX7_at__0 rfl 1 rfl rfl ?_
  refine jv_if_lt hE dX7_at__1 (tgt := 16) (by decide) rfl (fun c1 => ?_) (fun c1 => ?_)
  · rw [if_pos c1] at h
    cases h
    refine jv_lconst (v := 0) hE dX7_at__16 rfl (by decide) ?_
    exact hret _ _ dX7_at__17
  · rw [if_neg c1] at h
    refine jv_iload_n (x := p) hE dX7_at__4 rfl 1 rfl rfl ?_
    refine jv_aload_n (x := k) hE dX7_at__5 rfl 0 rfl rfl ?_
    refine jv_alenl hE dX7_at__6 rfl hk (v := nI n) rfl ?_
    refine jv_icmp_ge hE dX7_at__7 (tgt := 16) (by decide) rfl (fun c2 => ?_) (fun c2 => ?_)
    · rw [if_pos c2] at h
      cases h
      refine jv_lconst (v := 0) hE dX7_at__16 rfl (by decide) ?_
      exact hret _ _ dX7_at__17
    · rw [if_neg c2] at h
      refine jv_aload_n (x := k) hE dX7_at__10 rfl 0 rfl rfl ?_
      refine jv_iload_n (x := p) hE dX7_at__11 rfl 1 rfl rfl ?_
      refine jv_lald hE dX7_at__12 rfl hk (jv_in_of hn c1 c2) ?_
      refine jv_goto hE dX7_at__13 (tgt := 17) (by decide) ?_
      rw [h]
      exact hret _ _ dX7_at__17
theorem ok_X7_put {p v : Int32} {τ : jv_S} (hn : n < 2 ^ 31) (hk : jv_os[k]? = some (.inr (0, n))) (h : jv_wr σ k n p v = τ) : jv_Cn G l 1 M_X7_put [.ref k, .int p, .int v] σ none τ := by
  refine jv_of (L0 := [some (.ref k), some (.int p), some (.int v)]) (by decide +kernel) (Nat.le_of_ble_eq_true rfl) rfl jv_okV (fun E e1 e2 hE hret => ?_)
  unfold jv_wr at h
  refine jv_iload_n (x := p) hE dX7_put_0 rfl 1 rfl rfl ?_
  refine jv_if_lt hE dX7_put_1 (tgt := 14) (by decide) rfl (fun c1 => ?_) (fun c1 => ?_)
  · rw [if_pos c1] at h
    cases h
    exact hret _ _ dX7_put_14
  · rw [if_neg c1] at h
    refine jv_iload_n (x := p) hE dX7_put_4 rfl 1 rfl rfl ?_
    refine jv_aload_n (x := k) hE dX7_put_5 rfl 0 rfl rfl ?_
    refine jv_alen hE dX7_put_6 rfl hk (v := nI n) rfl ?_
    refine jv_icmp_ge hE dX7_put_7 (tgt := 14) (by decide) rfl (fun c2 => ?_) (fun c2 => ?_)
    · rw [if_pos c2] at h
      cases h
      exact hret _ _ dX7_put_14
    · rw [if_neg c2] at h
      refine jv_aload_n (x := k) hE dX7_put_10 rfl 0 rfl rfl ?_
      refine jv_iload_n (x := p) hE dX7_put_11 rfl 1 rfl rfl ?_
      refine jv_iload_n (x := v) hE dX7_put_12 rfl 2 rfl rfl ?_
      refine jv_iast hE dX7_put_13 rfl hk (jv_in_of hn c1 c2) ?_
      rw [h]
      exact hret _ _ dX7_put_14
theorem ok_X7_put_ {p : Int32} {v : Int64} {τ : jv_S} (hn : n < 2 ^ 31) (hk : jv_os[k]? = some (.inr (2, n))) (h : jv_wrl σ k n p v = τ) : jv_Cn G l 1 M_X7_put_ [.ref k, .int p, .long v] σ none τ := by
  refine jv_of (L0 := [some (.ref k), some (.int p), some (.long v), none]) (by decide +kernel) (Nat.le_of_ble_eq_true rfl) rfl jv_okV (fun E e1 e2 hE hret => ?_)
  unfold jv_wrl at h
  refine jv_iload_n (x := p) hE dX7_put__0 rfl 1 rfl rfl ?_
  refine jv_if_lt hE dX7_put__1 (tgt := 14) (by decide) rfl (fun c1 => ?_) (fun c1 => ?_)
  · rw [if_pos c1] at h
    cases h
    exact hret _ _ dX7_put__14
  · rw [if_neg c1] at h
    refine jv_iload_n (x := p) hE dX7_put__4 rfl 1 rfl rfl ?_
    refine jv_aload_n (x := k) hE dX7_put__5 rfl 0 rfl rfl ?_
    refine jv_alenl hE dX7_put__6 rfl hk (v := nI n) rfl ?_
    refine jv_icmp_ge hE dX7_put__7 (tgt := 14) (by decide) rfl (fun c2 => ?_) (fun c2 => ?_)
    · rw [if_pos c2] at h
      cases h
      exact hret _ _ dX7_put__14
    · rw [if_neg c2] at h
      refine jv_aload_n (x := k) hE dX7_put__10 rfl 0 rfl rfl ?_
      refine jv_iload_n (x := p) hE dX7_put__11 rfl 1 rfl rfl ?_
      refine jv_lload_n (x := v) hE dX7_put__12 rfl 2 rfl rfl ?_
      refine jv_last hE dX7_put__13 rfl hk (jv_in_of hn c1 c2) ?_
      rw [h]
      exact hret _ _ dX7_put__14
theorem jv_callMin {E : jv_E} {own : String} {cc : ByteArray} {nL d pc pc' index : Nat} {L : List (Option Value)} {st : List Value} {x y : Int32} (hc : jv_Cx E own cc nL d) (hd : decode cc pc = .ok (.invokestatic index, 3)) (hp : pc + 3 = pc') (hm : jv_MS own index M_J9_min_7cf53 2)
    (hroom : (st.map fun v => v.category).sum ≤ 8) (k : jv_V E pc' L (.int (jv_min x y) :: st) σ) : jv_V E pc L (.int y :: .int x :: st) σ := by
  subst hp
  obtain ⟨p, l, e, R, s, m, args, below, meth, c, cells, slots, Q, G⟩ := E
  obtain ⟨hx, hb, hml, hown, hts, hX, hZ, hD, hB, hR1, hR2, hR3, hR4⟩ := hc
  obtain ⟨⟨hm1, hm2, hm3, hm4⟩, hm5, hm6⟩ := hm
  intro H locs ls hP hS hl
  have h8 := jv_sum (G := G) hroom
  exact va_mmin (own := own) (index := index) hx hb hl.1.symm hown (hts _ hm5) (hts _ hm6) (hts _ hm2) (hts _ hm1) (by omega) (by omega) hR3 hR4 hd (k H locs ls hP hS hl)
/-- a row filled so far -/
def jv_flp (σ : jv_S) (k i : Nat) (v : Int32) : jv_S := (jv_u σ.1 k (fun j => if j < i then v else σ.1 k j), σ.2)
theorem jv_flp_s (σ : jv_S) (k i : Nat) (v : Int32) : jv_si (jv_flp σ k i v) k i v = jv_flp σ k (i + 1) v := by
  refine Prod.ext ?_ rfl
  funext k'
  by_cases e : k' = k
  · subst e
    simp only [jv_si, jv_flp, jv_u, if_true]
    funext j
    simp only [upd]
    by_cases h : j = i
    · simp [h]
    · have h2 : (j < i + 1) ↔ j < i := by omega
      simp [h, h2]
  · simp [jv_si, jv_flp, jv_u, e]
theorem jv_flp_0 (σ : jv_S) (k : Nat) (v : Int32) : jv_flp σ k 0 v = σ := by
  refine Prod.ext ?_ rfl
  funext k'
  by_cases e : k' = k
  · subst e; simp [jv_flp, jv_u]
  · simp [jv_flp, jv_u, e]
theorem lp_fill {v : Int32} (hn : n < 2 ^ 31) (hk : jv_os[k]? = some (.inr (0, n))) {E : jv_E} {τ : jv_S} (hE : jv_Cx E RJ7 cJ7_fill_53178 4 1) (hret : jv_Rt E cJ7_fill_53178 none (jv_flp σ k n v)) :
    ∀ m i, i + m = n → τ = jv_flp σ k i v → jv_V E 5 [some (.ref k), some (.int v), some (.int (nI i)), some (.int (nI n))] [] τ := by
  intro m
  induction m generalizing τ with
  | zero =>
    intro i hi ht
    have hi : i = n := hi
    subst hi; subst ht
    refine jv_iload_n (x := nI i) hE dJ7_fill_53178_5 rfl 2 rfl rfl ?_
    refine jv_iload_n (x := nI i) hE dJ7_fill_53178_6 rfl 3 rfl rfl ?_
    refine jv_icmp_ge hE dJ7_fill_53178_7 (tgt := 20) (by decide) rfl (fun c1 => ?_) (fun c1 => absurd (nI_le (Nat.le_refl i) hn) c1)
    exact hret _ _ dJ7_fill_53178_20
  | succ m ih =>
    intro i hi ht
    subst ht
    refine jv_iload_n (x := nI i) hE dJ7_fill_53178_5 rfl 2 rfl rfl ?_
    refine jv_iload_n (x := nI n) hE dJ7_fill_53178_6 rfl 3 rfl rfl ?_
    refine jv_icmp_ge hE dJ7_fill_53178_7 (tgt := 20) (by decide) rfl (fun c1 => absurd c1 (nI_ge (by omega) hn)) (fun c1 => ?_)
    refine jv_aload_n (x := k) hE dJ7_fill_53178_10 rfl 0 rfl rfl ?_
    refine jv_iload_n (x := nI i) hE dJ7_fill_53178_11 rfl 2 rfl rfl ?_
    refine jv_iload_n (x := v) hE dJ7_fill_53178_12 rfl 1 rfl rfl ?_
    refine jv_iast hE dJ7_fill_53178_13 rfl hk (vp_in_nI (by omega) hn) ?_
    refine jv_iinc (x := nI i) (v := nI (i + 1)) (L' := [some (.ref k), some (.int v), some (.int (nI (i + 1))), some (.int (nI n))]) hE dJ7_fill_53178_14 rfl rfl (nI_1 i) (by decide) rfl rfl ?_
    refine jv_goto hE dJ7_fill_53178_17 (tgt := 5) (by decide) ?_
    refine ih (i + 1) (by omega) ?_
    rw [nI_clamp (by omega), jv_flp_s]
theorem ok_J7_fill_53178 {v : Int32} {τ : jv_S} (hn : n < 2 ^ 31) (hk : jv_os[k]? = some (.inr (0, n))) (h : jv_fl σ k n v = τ) : jv_Cn G l 1 M_J7_fill_53178 [.ref k, .int v] σ none τ := by
  refine jv_of (L0 := [some (.ref k), some (.int v), none, none]) (by decide +kernel) (Nat.le_of_ble_eq_true rfl) rfl jv_okV (fun E e1 e2 hE hret => ?_)
  refine jv_iconst (v := 0) hE dJ7_fill_53178_0 rfl (by decide) ?_
  refine jv_istore_n (x := 0) (L' := [some (.ref k), some (.int v), some (.int 0), none]) hE dJ7_fill_53178_1 rfl 2 rfl (by decide) rfl rfl ?_
  refine jv_aload_n (x := k) hE dJ7_fill_53178_2 rfl 0 rfl rfl ?_
  refine jv_alen hE dJ7_fill_53178_3 rfl hk (v := nI n) rfl ?_
  refine jv_istore_n (x := nI n) (L' := [some (.ref k), some (.int v), some (.int 0), some (.int (nI n))]) hE dJ7_fill_53178_4 rfl 3 rfl (by decide) rfl rfl ?_
  refine lp_fill (σ := σ) hn hk hE (by subst h; exact hret) n 0 (by omega) (jv_flp_0 σ k v).symm
end JVLEAF
