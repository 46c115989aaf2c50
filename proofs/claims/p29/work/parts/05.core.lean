/-! ===== the flat store: every object of the system has a number; what its slots hold is a function of that number ===== -/
abbrev jv_S : Type := (Nat → Nat → Int32) × (Nat → Nat → Int64)
/-- an object: its class's place in vwCl and its fields (0 an int, 1 a long, 2 null as yet, r + 3 the object r), or an array: its kind (0 int, 2 long) and its length -/
abbrev jv_O : Type := (Nat × List Nat) ⊕ (Nat × Nat)
/-- where the world lies: the tables, the objects' addresses, the array classes, the heap's size before it was made -/
abbrev jv_G : Type := va_G × (Nat → Nat) × (ClassId × ClassId × ClassId) × Nat
def jv_cv (G : jv_G) : Value → Value
  | .ref k => .ref (G.2.1 k)
  | v => v
def jv_fa (σ : jv_S) (k j c : Nat) : Value := match c with
  | 0 => .int (σ.1 k j)
  | 1 => .long (σ.2 k j)
  | 2 => .null
  | r + 3 => .ref r
def jv_en (G : jv_G) (σ : jv_S) (k : Nat) (o : jv_O) : va_E := match o with
  | .inl (ci, fc) => .inr (ci, fc.mapIdx (fun j c => jv_cv G (jv_fa σ k j c)))
  | .inr (0, n) => .inl (G.2.2.1.1, n, .inl (σ.1 k))
  | .inr (1, n) => .inl (G.2.2.1.2.1, n, .inl (σ.1 k))
  | .inr (_, n) => .inl (G.2.2.1.2.2, n, .inr (.inl (σ.2 k)))
def jv_ws (G : jv_G) (os : List jv_O) (σ : jv_S) : va_W := os.mapIdx (fun k o => (G.2.1 k, jv_en G σ k o))
/-- one row of the store anew -/
def jv_u {α : Type} (f : Nat → α) (k : Nat) (r : α) : Nat → α := fun k' => if k' = k then r else f k'
def jv_si (σ : jv_S) (k j : Nat) (x : Int32) : jv_S := (jv_u σ.1 k (upd (σ.1 k) j x), σ.2)
def jv_sl (σ : jv_S) (k j : Nat) (x : Int64) : jv_S := (σ.1, jv_u σ.2 k (vp_updL (σ.2 k) j x))
/-- the good words of the tables -/
def jv_WS : List Cond := lw_tbl.filter goodWord
def jv_nest : Cond → Bool
  | .methodLinkNest .. => true
  | .castable .. => true
  | .declares _ => true
  | _ => false
theorem jv_w {w : Cond} (h : w ∈ lw_tbl) (g : goodWord w = true) : w ∈ jv_WS := List.mem_filter.mpr ⟨h, g⟩
theorem jv_wg {w : Cond} (h : w ∈ jv_WS) : (w.onTables && w.keeps) = true ∨ ∃ ty, w = .arrayClass ty := good_of_word (List.mem_filter.mp h).2
theorem jv_tb {w : Cond} (i : Nat) (h : tables_1[i]? = some w) : w ∈ lw_tbl := List.mem_append_right _ (List.mem_of_getElem? h)
def jv_tys (G : jv_G) : List (ClassId × FieldType) := [(G.2.2.1.1, .int), (G.2.2.1.2.1, .int), (G.2.2.1.2.2, .long)]
abbrev jv_A (G : jv_G) : Nat → Prop := fun q => G.2.2.2 ≤ q ∧ q < G.2.2.2 + 35
/-- String constants of the throws: (place in the class's pool, text) -/
def jv_ncs : List (String × String) := [("java/lang/IllegalStateException", "java/lang/IllegalArgumentException"), ("java/util/NoSuchElementException", "java/lang/IllegalArgumentException"), ("java/util/NoSuchElementException", "java/lang/IllegalStateException")]
/-- what the tables say beyond the good words: links of nest mates, casts, String constants; stable -/
def jv_X (G : jv_G) (strs : List (Nat × String)) (U : State) : Prop :=
  va_K G.1 vwCl (jv_tys G) U ∧ (∀ w ∈ lw_tbl, jv_nest w = true → va_Nw w U) ∧ (∀ q ∈ jv_ncs, va_Nc q.1 q.2 U) ∧ ∀ q ∈ strs, ∃ sa, vk_R RX7 q.1 q.2 sa U
/-- the two statics of Throwable -/
def jv_Z (G : jv_G) (U : State) (H : Heap) : Prop := vx_Zq Bundle.tN "UNASSIGNED_STACK" Bundle.steD (jv_A G) U H ∧ vx_Zq Bundle.tN "SUPPRESSED_SENTINEL" Bundle.listD (jv_A G) U H
/-- the addresses are apart, and new -/
def jv_D (G : jv_G) (os : List jv_O) : Prop := (∀ i j, i < os.length → j < os.length → G.2.1 i = G.2.1 j → i = j) ∧ ∀ i, i < os.length → jv_A G (G.2.1 i)
def jv_I (G : jv_G) (os : List jv_O) (strs : List (Nat × String)) (σ : jv_S) (U : State) : Prop :=
  jv_X G strs U ∧ jv_Z G U U.heap ∧ va_P G.1 vwCl (jv_ws G os σ) U.heap ∧ jv_D G os ∧ G.2.2.2 ≤ U.heap.size
theorem jv_nest_warm {w : Cond} (hn : jv_nest w = true) {s U : State} (hW : s.WarmedH U.vm) (h : va_Nw w s) : va_Nw w U := by
  cases w <;> first | exact va_Nw.warmM hW h | exact va_Nw.warmC hW h | exact va_tabs rfl (rfl : (s.setVm U.vm).vm = U.vm) (by rw [Cond.declares_setVm hW.alike]; exact h) | cases hn
theorem jv_X.warm {G : jv_G} {strs : List (Nat × String)} {s U : State} (hW : s.WarmedH U.vm) (h : jv_X G strs s) : jv_X G strs U := by
  obtain ⟨h1, h2, h3, h4⟩ := h
  refine ⟨h1.moved hW.alike, fun w hw hn => jv_nest_warm hn hW (h2 w hw hn), fun q hq => (h3 q hq).moved hW.alike, fun q hq => ?_⟩
  obtain ⟨sa, h⟩ := h4 q hq
  exact ⟨sa, h.warm hW⟩
theorem jv_Z.warm {G : jv_G} {s U : State} {H0 H : Heap} {locs : List Loc} (hA : s.vm.Alike U.vm) (hS : va_S (jv_A G) H0 H locs) (h : jv_Z G s H0) : jv_Z G U H :=
  ⟨vx_Zq.moved hA (h.1.kept hS.2.1), vx_Zq.moved hA (h.2.kept hS.2.1)⟩
theorem jv_I.blind {G : jv_G} {os : List jv_O} {strs : List (Nat × String)} {σ : jv_S} {U : State} {g : JFrame} {mk : MethodId} {a : Array Value} (h : jv_I G os strs σ U) : jv_I G os strs σ (U.calling g mk a) := by
  obtain ⟨h1, h2, h3, h4, h5⟩ := h
  have hv : (U.calling g mk a).vm = U.vm := rfl
  refine ⟨?_, ⟨vx_Zq.moved (Vm.Alike.refl U.vm) h2.1, vx_Zq.moved (Vm.Alike.refl U.vm) h2.2⟩, h3, h4, h5⟩
  exact h1.warm (State.WarmedH.refl U)
theorem jv_D.va {G : jv_G} {os : List jv_O} {σ : jv_S} (h : jv_D G os) : va_D (jv_A G) (jv_ws G os σ) := by
  refine ⟨fun i j p q hp hq e => ?_, fun k q hq => ?_⟩
  · simp only [jv_ws, List.getElem?_mapIdx, Option.map_eq_some_iff] at hp hq
    obtain ⟨a, h1, rfl⟩ := hp
    obtain ⟨b, h2, rfl⟩ := hq
    exact h.1 i j (List.getElem?_eq_some_iff.mp h1).1 (List.getElem?_eq_some_iff.mp h2).1 e
  · simp only [jv_ws, List.getElem?_mapIdx, Option.map_eq_some_iff] at hq
    obtain ⟨a, h1, rfl⟩ := hq
    exact h.2 k (List.getElem?_eq_some_iff.mp h1).1
theorem jv_ws_at {G : jv_G} {os : List jv_O} {σ : jv_S} {k : Nat} {o : jv_O} (h : os[k]? = some o) : (jv_ws G os σ)[k]? = some (G.2.1 k, jv_en G σ k o) := by
  simp [jv_ws, List.getElem?_mapIdx, h]
/-- the world of a store changed in one object -/
theorem jv_ws_set {G : jv_G} {os : List jv_O} {σ τ : jv_S} {k : Nat} {o : jv_O} {x : va_E} (h : os[k]? = some o) (hx : jv_en G τ k o = x) (h1 : ∀ k', k' ≠ k → τ.1 k' = σ.1 k') (h2 : ∀ k', k' ≠ k → τ.2 k' = σ.2 k') :
    (jv_ws G os σ).set k (G.2.1 k, x) = jv_ws G os τ := by
  apply List.ext_getElem?
  intro i
  rw [List.getElem?_set]
  by_cases e : k = i
  · subst e
    have hl : k < os.length := (List.getElem?_eq_some_iff.mp h).1
    have hl2 : k < (jv_ws G os σ).length := by simpa [jv_ws] using hl
    rw [if_pos rfl, if_pos hl2, jv_ws_at h, hx]
  · rw [if_neg e]
    simp only [jv_ws, List.getElem?_mapIdx]
    cases ho : os[i]? with
    | none => rfl
    | some q =>
      have e1 := h1 i (Ne.symm e)
      have e2 := h2 i (Ne.symm e)
      simp only [Option.map_some, Option.some.injEq, Prod.mk.injEq, true_and]
      have e3 : ∀ j c, jv_fa σ i j c = jv_fa τ i j c := by
        intro j c
        match c with
        | 0 => simp [jv_fa, e1]
        | 1 => simp [jv_fa, e2]
        | 2 => rfl
        | r + 3 => rfl
      match q with
      | .inl (ci, fc) => simp only [jv_en, e3]
      | .inr (0, n) => simp only [jv_en, e1]
      | .inr (1, n) => simp only [jv_en, e1]
      | .inr (n + 2, _) => simp only [jv_en, e2]
/-! the locals, by places -/
def jv_lst (G : jv_G) : Nat → List (Option Value) → List (Nat × Value)
  | _, [] => []
  | n, none :: t => jv_lst G (n + 1) t
  | n, some v :: t => (n, jv_cv G v) :: jv_lst G (n + 1) t
theorem jv_lst_mem {G : jv_G} (L : List (Option Value)) : ∀ (n : Nat) (q : Nat × Value), q ∈ jv_lst G n L ↔ ∃ i v, q = (n + i, jv_cv G v) ∧ L[i]? = some (some v) := by
  induction L with
  | nil => intro n q; simp [jv_lst]
  | cons x t ih =>
    intro n q
    have key : q ∈ jv_lst G (n + 1) t ↔ ∃ i v, q = (n + (i + 1), jv_cv G v) ∧ (x :: t)[i + 1]? = some (some v) := by
      rw [ih]
      simp only [List.getElem?_cons_succ, Nat.add_assoc, Nat.add_comm 1]
    cases x with
    | none =>
      rw [show jv_lst G n (none :: t) = jv_lst G (n + 1) t from rfl, key]
      constructor
      · rintro ⟨i, v, h1, h2⟩; exact ⟨i + 1, v, h1, h2⟩
      · rintro ⟨i, v, h1, h2⟩
        cases i with
        | zero => simp at h2
        | succ i => exact ⟨i, v, h1, h2⟩
    | some y =>
      rw [show jv_lst G n (some y :: t) = (n, jv_cv G y) :: jv_lst G (n + 1) t from rfl, List.mem_cons, key]
      constructor
      · rintro (h | ⟨i, v, h1, h2⟩)
        · exact ⟨0, y, h, rfl⟩
        · exact ⟨i + 1, v, h1, h2⟩
      · rintro ⟨i, v, h1, h2⟩
        cases i with
        | zero =>
          simp at h2
          subst h2
          exact Or.inl h1
        | succ i => exact Or.inr ⟨i, v, h1, h2⟩
theorem jv_cv_cat {G : jv_G} (v : Value) : (jv_cv G v).category = v.category := by cases v <;> rfl
theorem jv_at {G : jv_G} {ls : Array Slot} {nL i : Nat} {L : List (Option Value)} {v : Value} (h : lv_has ls nL (jv_lst G 0 L)) (hi : L[i]? = some (some v)) : ls[i]? = some (.val (jv_cv G v)) := by
  have := h.2.2 (i, jv_cv G v) ((jv_lst_mem L 0 _).mpr ⟨i, v, by rw [Nat.zero_add], hi⟩)
  exact this
/-- no long stands just below the place -/
def jv_nl (L : List (Option Value)) (i : Nat) : Bool := match i with
  | 0 => true
  | i + 1 => match L[i]? with
    | some (some (.long _)) => false
    | some (some (.double _)) => false
    | _ => true
theorem jv_nl_spec {L : List (Option Value)} {i j : Nat} {v : Value} (h : jv_nl L i = true) (hj : L[j]? = some (some v)) (e : j + 1 = i) : v.category ≠ 2 := by
  subst e
  simp only [jv_nl, hj] at h
  cases v <;> simp_all [Value.category]
theorem jv_set1 {G : jv_G} {ls : Array Slot} {nL i : Nat} {L : List (Option Value)} {v : Value} (hc : v.category = 1) (hl : jv_nl L i = true)
    (h : lv_has ls nL ((i, jv_cv G v) :: (jv_lst G 0 L).filter (fun q => !(q.1 == i) && !(q.1 + 1 == i && q.2.category == 2)))) : lv_has ls nL (jv_lst G 0 (L.set i (some v))) := by
  refine ⟨h.1, h.2.1, fun q hq => h.2.2 q ?_⟩
  obtain ⟨j, w, rfl, hj⟩ := (jv_lst_mem _ 0 _).mp hq
  rw [Nat.zero_add] at *
  rw [List.getElem?_set] at hj
  by_cases e : i = j
  · subst e
    rw [if_pos rfl] at hj
    by_cases hlt : i < L.length
    · rw [if_pos hlt] at hj
      cases hj
      exact List.mem_cons_self
    · rw [if_neg hlt] at hj; cases hj
  · rw [if_neg e] at hj
    refine List.mem_cons_of_mem _ (List.mem_filter.mpr ⟨(jv_lst_mem L 0 _).mpr ⟨j, w, by rw [Nat.zero_add], hj⟩, ?_⟩)
    have h1 : (j == i) = false := by simpa using (fun z => e z.symm)
    have h2 : (j + 1 == i && (jv_cv G w).category == 2) = false := by
      by_cases e2 : j + 1 = i
      · have := jv_nl_spec hl hj e2
        rw [jv_cv_cat]
        simp [this]
      · simp [e2]
    simp only [h1, h2]
    rfl
theorem jv_set2 {G : jv_G} {ls : Array Slot} {nL i : Nat} {L : List (Option Value)} {x : Int64} (hl : jv_nl L i = true)
    (h : lv_has ls nL ((i, .long x) :: (jv_lst G 0 L).filter (fun q => !(q.1 == i) && (!(q.1 == i + 1) && !(q.1 + 1 == i && q.2.category == 2))))) : lv_has ls nL (jv_lst G 0 ((L.set i (some (.long x))).set (i + 1) none)) := by
  refine ⟨h.1, h.2.1, fun q hq => h.2.2 q ?_⟩
  obtain ⟨j, w, rfl, hj⟩ := (jv_lst_mem _ 0 _).mp hq
  rw [Nat.zero_add] at *
  rw [List.getElem?_set] at hj
  by_cases e0 : i + 1 = j
  · rw [if_pos e0] at hj
    split at hj <;> cases hj
  · rw [if_neg e0, List.getElem?_set] at hj
    by_cases e : i = j
    · subst e
      rw [if_pos rfl] at hj
      by_cases hlt : i < L.length
      · rw [if_pos hlt] at hj
        cases hj
        exact List.mem_cons_self
      · rw [if_neg hlt] at hj; cases hj
    · rw [if_neg e] at hj
      refine List.mem_cons_of_mem _ (List.mem_filter.mpr ⟨(jv_lst_mem L 0 _).mpr ⟨j, w, by rw [Nat.zero_add], hj⟩, ?_⟩)
      have h1 : (j == i) = false := by simpa using (fun z => e z.symm)
      have h0 : (j == i + 1) = false := by simpa using (fun z => e0 z.symm)
      have h2 : (j + 1 == i && (jv_cv G w).category == 2) = false := by
        by_cases e2 : j + 1 = i
        · have := jv_nl_spec hl hj e2
          rw [jv_cv_cat]
          simp [this]
        · simp [e2]
      simp only [h1, h0, h2]
      rfl
/-- a method's locals at its entry -/
def jv_args : List Value → List (Option Value)
  | [] => []
  | v :: t => if v.category = 2 then some v :: none :: jv_args t else some v :: jv_args t
theorem jv_args_lst {G : jv_G} (vs : List Value) : ∀ n, jv_lst G n (jv_args vs) = lv_args n (vs.map (jv_cv G)) := by
  induction vs with
  | nil => intro n; rfl
  | cons v t ih =>
    intro n
    by_cases hc : v.category = 2
    · simp [jv_args, hc, jv_lst, lv_args, jv_cv_cat, ih]
    · simp [jv_args, hc, jv_lst, lv_args, jv_cv_cat, ih]
theorem jv_lst_none {G : jv_G} (L : List (Option Value)) (k : Nat) : ∀ n, jv_lst G n (L ++ List.replicate k none) = jv_lst G n L := by
  induction L with
  | nil =>
    intro n
    induction k generalizing n with
    | zero => rfl
    | succ k ih => exact ih (n + 1)
  | cons x t ih =>
    intro n
    cases x with
    | none => exact ih (n + 1)
    | some v => show _ :: jv_lst G (n + 1) (t ++ _) = _ :: _; rw [ih]
