/-! ===== the law's own methods: a judgement over any world, that counts the exceptions made so far ===== -/
/-- a world: what the heap holds; what may change; what stands from the start -/
abbrev gl_B (T : Type) : Type := (jv_G → T → Heap → Prop) × (jv_G → Nat → Prop) × (jv_G → State → Prop)
/-- one object's world -/
def gl_1 : gl_B jv_S := (fun G σ H => va_P G.1 vwCl (jv_ws G jv_os σ) H, jv_A, fun G s => jv_X G jv_strs s ∧ jv_Z G s s.heap ∧ jv_D G jv_os ∧ G.2.2.2 ≤ s.heap.size)
/-- the other object lies behind the first one -/
def jv_rt (G : jv_G) : jv_G := (G.1, fun k => G.2.1 (k + 35), G.2.2.1, G.2.2.2 + 35)
def gl_A2 (G : jv_G) : Nat → Prop := fun q => G.2.2.2 ≤ q ∧ q < G.2.2.2 + 70
def gl_Z2 (G : jv_G) (U : State) (H : Heap) : Prop := vx_Zq Bundle.tN "UNASSIGNED_STACK" Bundle.steD (gl_A2 G) U H ∧ vx_Zq Bundle.tN "SUPPRESSED_SENTINEL" Bundle.listD (gl_A2 G) U H
def gl_2 : gl_B (jv_S × jv_S) := (fun G τ H => va_P G.1 vwCl (jv_ws G jv_os τ.1) H ∧ va_P G.1 vwCl (jv_ws (jv_rt G) jv_os τ.2) H, gl_A2, fun G s => jv_X G jv_strs s ∧ gl_Z2 G s s.heap ∧ jv_D G jv_os ∧ jv_D (jv_rt G) jv_os)
def gl_C {T : Type} (B : gl_B T) (E : jv_E) (own : String) (cc : ByteArray) (nL d N : Nat) : Prop := match E with
  | (p, _, _, R, s, m, args, _, _, c, cells, slots, _, G) => p.tables.exec = Jvm.exec ∧ c.code = cc ∧ c.maxLocals = nL ∧ s.vm.findClass own = some m.cls ∧ (∀ w ∈ jv_WS, w.before args s = true) ∧ B.2.2 G s ∧ jv_X G jv_strs s ∧ d + 12 ≤ R.frames ∧ 64 * d + 250 ≤ R.locals ∧ cells + N ≤ R.cells ∧ slots + 6 * N ≤ R.slots
/-- from here the method comes to its end, if at most U exceptions were made so far -/
def gl_V {T : Type} (B : gl_B T) (E : jv_E) (U pc : Nat) (L : List (Option Value)) (st : List Value) (τ : T) : Prop := match E with
  | (p, l, e, R, s, m, args, below, meth, c, cells, slots, Q, G) => ∀ (j : Nat), j ≤ U → ∀ (H : Heap) (locs : List Loc) (ls : Array Slot), B.1 G τ H → va_S (B.2.1 G) s.heap H locs → lv_has ls c.maxLocals (jv_lst G 0 L) →
      W p l e R s m args below meth c H locs (cells + j) (slots + 6 * j) Q (F0 m pc ls (st.map (jv_cv G)))
theorem gl_wk {T : Type} {B : gl_B T} {E : jv_E} {U U' pc : Nat} {L : List (Option Value)} {st : List Value} {τ : T} (h : U ≤ U') (k : gl_V B E U' pc L st τ) : gl_V B E U pc L st τ := by
  obtain ⟨p, l, e, R, s, m, args, below, meth, c, cells, slots, Q, G⟩ := E
  exact fun j hj => k j (Nat.le_trans hj h)
theorem gl_weak {T : Type} {B : gl_B T} {E : jv_E} {U pc : Nat} {L L' : List (Option Value)} {st : List Value} {τ : T} (h : ∀ (i : Nat) (v : Value), L'[i]? = some (some v) → L[i]? = some (some v)) (k : gl_V B E U pc L' st τ) : gl_V B E U pc L st τ := by
  obtain ⟨p, l, e, R, s, m, args, below, meth, c, cells, slots, Q, G⟩ := E
  intro j hj H locs ls hP hS hl
  refine k j hj H locs ls hP hS ⟨hl.1, hl.2.1, fun q hq => hl.2.2 q ?_⟩
  obtain ⟨i, v, rfl, hi⟩ := (jv_lst_mem L' 0 _).mp hq
  exact (jv_lst_mem L 0 _).mpr ⟨i, v, rfl, h i v hi⟩
/-- a join: less known of the locals, more exceptions allowed -/
theorem gl_fg {T : Type} {B : gl_B T} {E : jv_E} {U U' pc : Nat} {L : List (Option Value)} {st : List Value} {τ : T} (m : List Bool) (h : U ≤ U') (k : gl_V B E U' pc (jv_fg L m) st τ) : gl_V B E U pc L st τ := gl_weak (jv_fg_at L m) (gl_wk h k)
theorem gl_topI {T : Type} {B : gl_B T} {E : jv_E} {U pc : Nat} {L : List (Option Value)} {st : List Value} {τ : T} {x y : Int32} (h : x = y) (k : gl_V B E U pc L (.int y :: st) τ) : gl_V B E U pc L (.int x :: st) τ := h ▸ k
section GLROWS
variable {T : Type} {B : gl_B T} {E : jv_E} {own : String} {cc : ByteArray} {nL d N U pc pc' : Nat} {L L' : List (Option Value)} {st : List Value} {τ : T}

theorem gl_iadd {x y : Int32} (hc : gl_C B E own cc nL d N) (hd : decode cc pc = .ok (.iadd, 1)) (hp : pc + 1 = pc') (k : gl_V B E U pc' L (.int (x + y) :: st) τ) : gl_V B E U pc L (.int y :: .int x :: st) τ := by
  subst hp
  obtain ⟨p, l, e, R, s, m, args, below, meth, c, cells, slots, Q, G⟩ := E
  obtain ⟨hx, hb, hml, hown, hts, hI, hR⟩ := hc
  subst hml
  intro j hj H locs ls hP hS hl
  exact lv_iadd hx hb hd (k j hj H locs ls hP hS hl)
theorem gl_isub {x y : Int32} (hc : gl_C B E own cc nL d N) (hd : decode cc pc = .ok (.isub, 1)) (hp : pc + 1 = pc') (k : gl_V B E U pc' L (.int (x - y) :: st) τ) : gl_V B E U pc L (.int y :: .int x :: st) τ := by
  subst hp
  obtain ⟨p, l, e, R, s, m, args, below, meth, c, cells, slots, Q, G⟩ := E
  obtain ⟨hx, hb, hml, hown, hts, hI, hR⟩ := hc
  subst hml
  intro j hj H locs ls hP hS hl
  exact lv_isub hx hb hd (k j hj H locs ls hP hS hl)
theorem gl_imul {x y : Int32} (hc : gl_C B E own cc nL d N) (hd : decode cc pc = .ok (.imul, 1)) (hp : pc + 1 = pc') (k : gl_V B E U pc' L (.int (x * y) :: st) τ) : gl_V B E U pc L (.int y :: .int x :: st) τ := by
  subst hp
  obtain ⟨p, l, e, R, s, m, args, below, meth, c, cells, slots, Q, G⟩ := E
  obtain ⟨hx, hb, hml, hown, hts, hI, hR⟩ := hc
  subst hml
  intro j hj H locs ls hP hS hl
  exact lv_imul hx hb hd (k j hj H locs ls hP hS hl)
theorem gl_iand {x y : Int32} (hc : gl_C B E own cc nL d N) (hd : decode cc pc = .ok (.iand, 1)) (hp : pc + 1 = pc') (k : gl_V B E U pc' L (.int (x &&& y) :: st) τ) : gl_V B E U pc L (.int y :: .int x :: st) τ := by
  subst hp
  obtain ⟨p, l, e, R, s, m, args, below, meth, c, cells, slots, Q, G⟩ := E
  obtain ⟨hx, hb, hml, hown, hts, hI, hR⟩ := hc
  subst hml
  intro j hj H locs ls hP hS hl
  exact lv_iand hx hb hd (k j hj H locs ls hP hS hl)
theorem gl_ishr {x y : Int32} (hc : gl_C B E own cc nL d N) (hd : decode cc pc = .ok (.ishr, 1)) (hp : pc + 1 = pc') (k : gl_V B E U pc' L (.int (x >>> (y &&& 31)) :: st) τ) : gl_V B E U pc L (.int y :: .int x :: st) τ := by
  subst hp
  obtain ⟨p, l, e, R, s, m, args, below, meth, c, cells, slots, Q, G⟩ := E
  obtain ⟨hx, hb, hml, hown, hts, hI, hR⟩ := hc
  subst hml
  intro j hj H locs ls hP hS hl
  exact lv_ishr hx hb hd (k j hj H locs ls hP hS hl)
theorem gl_irem {x y : Int32} (hc : gl_C B E own cc nL d N) (hd : decode cc pc = .ok (.irem, 1)) (hp : pc + 1 = pc') (hne : ¬ y = 0) (k : gl_V B E U pc' L (.int (x - x / y * y) :: st) τ) : gl_V B E U pc L (.int y :: .int x :: st) τ := by
  subst hp
  obtain ⟨p, l, e, R, s, m, args, below, meth, c, cells, slots, Q, G⟩ := E
  obtain ⟨hx, hb, hml, hown, hts, hI, hR⟩ := hc
  subst hml
  intro j hj H locs ls hP hS hl
  exact lv_irem hx hb hd hne (k j hj H locs ls hP hS hl)
theorem gl_iconst {n : Int} {v : Int32} (hc : gl_C B E own cc nL d N) (hd : decode cc pc = .ok (.iconst n, 1)) (hp : pc + 1 = pc') (hv : Int32.ofInt n = v) (k : gl_V B E U pc' L (.int v :: st) τ) : gl_V B E U pc L (st) τ := by
  subst hp
  obtain ⟨p, l, e, R, s, m, args, below, meth, c, cells, slots, Q, G⟩ := E
  obtain ⟨hx, hb, hml, hown, hts, hI, hR⟩ := hc
  subst hml
  intro j hj H locs ls hP hS hl
  exact lv_iconst hx hb hd hv (k j hj H locs ls hP hS hl)
theorem gl_bipush {n : Int} {v : Int32} (hc : gl_C B E own cc nL d N) (hd : decode cc pc = .ok (.bipush n, 2)) (hp : pc + 2 = pc') (hv : (Int8.ofInt n).toInt32 = v) (k : gl_V B E U pc' L (.int v :: st) τ) : gl_V B E U pc L (st) τ := by
  subst hp
  obtain ⟨p, l, e, R, s, m, args, below, meth, c, cells, slots, Q, G⟩ := E
  obtain ⟨hx, hb, hml, hown, hts, hI, hR⟩ := hc
  subst hml
  intro j hj H locs ls hP hS hl
  exact lv_bipush hx hb hd hv (k j hj H locs ls hP hS hl)
theorem gl_sipush {n : Int} {v : Int32} (hc : gl_C B E own cc nL d N) (hd : decode cc pc = .ok (.sipush n, 3)) (hp : pc + 3 = pc') (hv : (Int16.ofInt n).toInt32 = v) (k : gl_V B E U pc' L (.int v :: st) τ) : gl_V B E U pc L (st) τ := by
  subst hp
  obtain ⟨p, l, e, R, s, m, args, below, meth, c, cells, slots, Q, G⟩ := E
  obtain ⟨hx, hb, hml, hown, hts, hI, hR⟩ := hc
  subst hml
  intro j hj H locs ls hP hS hl
  exact lv_sipush hx hb hd hv (k j hj H locs ls hP hS hl)
theorem gl_ldc {index : Nat} {v : Int32} (hc : gl_C B E own cc nL d N) (hd : decode cc pc = .ok (.ldc index, 2)) (hp : pc + 2 = pc') (hw : Cond.constant own index v ∈ jv_WS) (k : gl_V B E U pc' L (.int v :: st) τ) : gl_V B E U pc L (st) τ := by
  subst hp
  obtain ⟨p, l, e, R, s, m, args, below, meth, c, cells, slots, Q, G⟩ := E
  obtain ⟨hx, hb, hml, hown, hts, hI, hR⟩ := hc
  subst hml
  intro j hj H locs ls hP hS hl
  exact lv_ldc hx hb hown (hts _ hw) hd (k j hj H locs ls hP hS hl)
theorem gl_iload_n {k4 : Fin 4} {x : Int32} (hc : gl_C B E own cc nL d N) (hd : decode cc pc = .ok (.iload_n k4, 1)) (hp : pc + 1 = pc') (i : Nat) (hi : (k4 : Nat) = i) (hL : L[i]? = some (some (.int x))) (k : gl_V B E U pc' L (.int x :: st) τ) : gl_V B E U pc L (st) τ := by
  subst hp
  obtain ⟨p, l, e, R, s, m, args, below, meth, c, cells, slots, Q, G⟩ := E
  obtain ⟨hx, hb, hml, hown, hts, hI, hR⟩ := hc
  subst hml
  intro j hj H locs ls hP hS hl
  exact lv_iload_n hx hb hd hi (jv_at hl hL) (k j hj H locs ls hP hS hl)
theorem gl_iload {i : Nat} {x : Int32} (hc : gl_C B E own cc nL d N) (hd : decode cc pc = .ok (.iload i, 2)) (hp : pc + 2 = pc') (hL : L[i]? = some (some (.int x))) (k : gl_V B E U pc' L (.int x :: st) τ) : gl_V B E U pc L (st) τ := by
  subst hp
  obtain ⟨p, l, e, R, s, m, args, below, meth, c, cells, slots, Q, G⟩ := E
  obtain ⟨hx, hb, hml, hown, hts, hI, hR⟩ := hc
  subst hml
  intro j hj H locs ls hP hS hl
  exact lv_iload hx hb hd (jv_at hl hL) (k j hj H locs ls hP hS hl)
theorem gl_aload_n {k4 : Fin 4} {x : Nat} (hc : gl_C B E own cc nL d N) (hd : decode cc pc = .ok (.aload_n k4, 1)) (hp : pc + 1 = pc') (i : Nat) (hi : (k4 : Nat) = i) (hL : L[i]? = some (some (.ref x))) (k : gl_V B E U pc' L (.ref x :: st) τ) : gl_V B E U pc L (st) τ := by
  subst hp
  obtain ⟨p, l, e, R, s, m, args, below, meth, c, cells, slots, Q, G⟩ := E
  obtain ⟨hx, hb, hml, hown, hts, hI, hR⟩ := hc
  subst hml
  intro j hj H locs ls hP hS hl
  exact lv_aload_n hx hb hd hi (jv_at hl hL) (k j hj H locs ls hP hS hl)
theorem gl_aload {i : Nat} {x : Nat} (hc : gl_C B E own cc nL d N) (hd : decode cc pc = .ok (.aload i, 2)) (hp : pc + 2 = pc') (hL : L[i]? = some (some (.ref x))) (k : gl_V B E U pc' L (.ref x :: st) τ) : gl_V B E U pc L (st) τ := by
  subst hp
  obtain ⟨p, l, e, R, s, m, args, below, meth, c, cells, slots, Q, G⟩ := E
  obtain ⟨hx, hb, hml, hown, hts, hI, hR⟩ := hc
  subst hml
  intro j hj H locs ls hP hS hl
  exact lv_aload hx hb hd (jv_at hl hL) (k j hj H locs ls hP hS hl)
theorem gl_istore_n {k4 : Fin 4} {x : Int32} (hc : gl_C B E own cc nL d N) (hd : decode cc pc = .ok (.istore_n k4, 1)) (hp : pc + 1 = pc') (i : Nat) (hi : (k4 : Nat) = i) (hn : i < nL) (hk : jv_nl L i = true) (hL : L.set i (some (.int x)) = L') (k : gl_V B E U pc' L' (st) τ) : gl_V B E U pc L (.int x :: st) τ := by
  subst hp
  obtain ⟨p, l, e, R, s, m, args, below, meth, c, cells, slots, Q, G⟩ := E
  obtain ⟨hx, hb, hml, hown, hts, hI, hR⟩ := hc
  subst hml
  intro j hj H locs ls hP hS hl
  subst hL; exact lv_istore_n hx hb hd hi hl hn rfl (fun ls h => k j hj H locs ls hP hS (jv_set1 (v := .int x) rfl hk h))
theorem gl_istore {i : Nat} {x : Int32} (hc : gl_C B E own cc nL d N) (hd : decode cc pc = .ok (.istore i, 2)) (hp : pc + 2 = pc') (hn : i < nL) (hk : jv_nl L i = true) (hL : L.set i (some (.int x)) = L') (k : gl_V B E U pc' L' (st) τ) : gl_V B E U pc L (.int x :: st) τ := by
  subst hp
  obtain ⟨p, l, e, R, s, m, args, below, meth, c, cells, slots, Q, G⟩ := E
  obtain ⟨hx, hb, hml, hown, hts, hI, hR⟩ := hc
  subst hml
  intro j hj H locs ls hP hS hl
  subst hL; exact lv_istore hx hb hd hl hn rfl (fun ls h => k j hj H locs ls hP hS (jv_set1 (v := .int x) rfl hk h))
theorem gl_astore_n {k4 : Fin 4} {x : Nat} (hc : gl_C B E own cc nL d N) (hd : decode cc pc = .ok (.astore_n k4, 1)) (hp : pc + 1 = pc') (i : Nat) (hi : (k4 : Nat) = i) (hn : i < nL) (hk : jv_nl L i = true) (hL : L.set i (some (.ref x)) = L') (k : gl_V B E U pc' L' (st) τ) : gl_V B E U pc L (.ref x :: st) τ := by
  subst hp
  obtain ⟨p, l, e, R, s, m, args, below, meth, c, cells, slots, Q, G⟩ := E
  obtain ⟨hx, hb, hml, hown, hts, hI, hR⟩ := hc
  subst hml
  intro j hj H locs ls hP hS hl
  subst hL; exact lv_astore_n hx hb hd hi hl hn rfl (fun ls h => k j hj H locs ls hP hS (jv_set1 (v := .ref x) rfl hk h))
theorem gl_astore {i : Nat} {x : Nat} (hc : gl_C B E own cc nL d N) (hd : decode cc pc = .ok (.astore i, 2)) (hp : pc + 2 = pc') (hn : i < nL) (hk : jv_nl L i = true) (hL : L.set i (some (.ref x)) = L') (k : gl_V B E U pc' L' (st) τ) : gl_V B E U pc L (.ref x :: st) τ := by
  subst hp
  obtain ⟨p, l, e, R, s, m, args, below, meth, c, cells, slots, Q, G⟩ := E
  obtain ⟨hx, hb, hml, hown, hts, hI, hR⟩ := hc
  subst hml
  intro j hj H locs ls hP hS hl
  subst hL; exact lv_astore hx hb hd hl hn rfl (fun ls h => k j hj H locs ls hP hS (jv_set1 (v := .ref x) rfl hk h))
theorem gl_iinc {i : Nat} {n : Int} {x v : Int32} (hc : gl_C B E own cc nL d N) (hd : decode cc pc = .ok (.iinc i n, 3)) (hp : pc + 3 = pc') (hi : L[i]? = some (some (.int x))) (hv : x + Int32.ofInt n = v) (hn : i < nL) (hk : jv_nl L i = true) (hL : L.set i (some (.int v)) = L') (k : gl_V B E U pc' L' (st) τ) : gl_V B E U pc L (st) τ := by
  subst hp
  obtain ⟨p, l, e, R, s, m, args, below, meth, c, cells, slots, Q, G⟩ := E
  obtain ⟨hx, hb, hml, hown, hts, hI, hR⟩ := hc
  subst hml
  intro j hj H locs ls hP hS hl
  subst hL
  obtain ⟨q, hq⟩ := List.getElem?_of_mem ((jv_lst_mem (G := G) L 0 (i, .int x)).mpr ⟨i, .int x, by rw [Nat.zero_add]; rfl, hi⟩)
  exact lv_iinc hx hb hd hl hq hv hn rfl (fun ls h => k j hj H locs ls hP hS (jv_set1 (v := .int v) rfl hk h))
theorem gl_goto {off : Int} {tgt : Nat} (hc : gl_C B E own cc nL d N) (hd : decode cc pc = .ok (.goto off, 3)) (ht : (pc : Int) + off = (tgt : Int)) (k : gl_V B E U tgt L st τ) : gl_V B E U pc L st τ := by
  obtain ⟨p, l, e, R, s, m, args, below, meth, c, cells, slots, Q, G⟩ := E
  obtain ⟨hx, hb, hml, hown, hts, hI, hR⟩ := hc
  subst hml
  intro j hj H locs ls hP hS hl
  exact lv_goto hx hb hd ht (k j hj H locs ls hP hS hl)
theorem gl_dup {v : Value} (hc : gl_C B E own cc nL d N) (hd : decode cc pc = .ok (.dup, 1)) (hp : pc + 1 = pc') (hv : v.category = 1) (k : gl_V B E U pc' L (v :: v :: st) τ) : gl_V B E U pc L (v :: st) τ := by
  subst hp
  obtain ⟨p, l, e, R, s, m, args, below, meth, c, cells, slots, Q, G⟩ := E
  obtain ⟨hx, hb, hml, hown, hts, hI, hR⟩ := hc
  subst hml
  intro j hj H locs ls hP hS hl
  exact lv_dup hx hb hd (by rw [jv_cv_cat]; exact hv) (k j hj H locs ls hP hS hl)
theorem gl_icmp_eq {x y : Int32} {off : Int} {tgt : Nat} (hc : gl_C B E own cc nL d N) (hd : decode cc pc = .ok (.if_icmp .eq off, 3)) (ht : (pc : Int) + off = (tgt : Int)) (hp : pc + 3 = pc') (kt : x = y → gl_V B E U tgt L st τ) (kf : ¬ x = y → gl_V B E U pc' L st τ) : gl_V B E U pc L (.int y :: .int x :: st) τ := by
  subst hp
  obtain ⟨p, l, e, R, s, m, args, below, meth, c, cells, slots, Q, G⟩ := E
  obtain ⟨hx, hb, hml, hown, hts, hI, hR⟩ := hc
  subst hml
  intro j hj H locs ls hP hS hl
  exact lv_icmp_eq hx hb hd ht (fun h => kt h j hj H locs ls hP hS hl) (fun h => kf h j hj H locs ls hP hS hl)
theorem gl_icmp_ne {x y : Int32} {off : Int} {tgt : Nat} (hc : gl_C B E own cc nL d N) (hd : decode cc pc = .ok (.if_icmp .ne off, 3)) (ht : (pc : Int) + off = (tgt : Int)) (hp : pc + 3 = pc') (kt : ¬ x = y → gl_V B E U tgt L st τ) (kf : x = y → gl_V B E U pc' L st τ) : gl_V B E U pc L (.int y :: .int x :: st) τ := by
  subst hp
  obtain ⟨p, l, e, R, s, m, args, below, meth, c, cells, slots, Q, G⟩ := E
  obtain ⟨hx, hb, hml, hown, hts, hI, hR⟩ := hc
  subst hml
  intro j hj H locs ls hP hS hl
  exact lv_icmp_ne hx hb hd ht (fun h => kt h j hj H locs ls hP hS hl) (fun h => kf h j hj H locs ls hP hS hl)
theorem gl_icmp_lt {x y : Int32} {off : Int} {tgt : Nat} (hc : gl_C B E own cc nL d N) (hd : decode cc pc = .ok (.if_icmp .lt off, 3)) (ht : (pc : Int) + off = (tgt : Int)) (hp : pc + 3 = pc') (kt : x < y → gl_V B E U tgt L st τ) (kf : ¬ x < y → gl_V B E U pc' L st τ) : gl_V B E U pc L (.int y :: .int x :: st) τ := by
  subst hp
  obtain ⟨p, l, e, R, s, m, args, below, meth, c, cells, slots, Q, G⟩ := E
  obtain ⟨hx, hb, hml, hown, hts, hI, hR⟩ := hc
  subst hml
  intro j hj H locs ls hP hS hl
  exact lv_icmp_lt hx hb hd ht (fun h => kt h j hj H locs ls hP hS hl) (fun h => kf h j hj H locs ls hP hS hl)
theorem gl_icmp_ge {x y : Int32} {off : Int} {tgt : Nat} (hc : gl_C B E own cc nL d N) (hd : decode cc pc = .ok (.if_icmp .ge off, 3)) (ht : (pc : Int) + off = (tgt : Int)) (hp : pc + 3 = pc') (kt : y ≤ x → gl_V B E U tgt L st τ) (kf : ¬ y ≤ x → gl_V B E U pc' L st τ) : gl_V B E U pc L (.int y :: .int x :: st) τ := by
  subst hp
  obtain ⟨p, l, e, R, s, m, args, below, meth, c, cells, slots, Q, G⟩ := E
  obtain ⟨hx, hb, hml, hown, hts, hI, hR⟩ := hc
  subst hml
  intro j hj H locs ls hP hS hl
  exact lv_icmp_ge hx hb hd ht (fun h => kt h j hj H locs ls hP hS hl) (fun h => kf h j hj H locs ls hP hS hl)
theorem gl_icmp_gt {x y : Int32} {off : Int} {tgt : Nat} (hc : gl_C B E own cc nL d N) (hd : decode cc pc = .ok (.if_icmp .gt off, 3)) (ht : (pc : Int) + off = (tgt : Int)) (hp : pc + 3 = pc') (kt : y < x → gl_V B E U tgt L st τ) (kf : ¬ y < x → gl_V B E U pc' L st τ) : gl_V B E U pc L (.int y :: .int x :: st) τ := by
  subst hp
  obtain ⟨p, l, e, R, s, m, args, below, meth, c, cells, slots, Q, G⟩ := E
  obtain ⟨hx, hb, hml, hown, hts, hI, hR⟩ := hc
  subst hml
  intro j hj H locs ls hP hS hl
  exact lv_icmp_gt hx hb hd ht (fun h => kt h j hj H locs ls hP hS hl) (fun h => kf h j hj H locs ls hP hS hl)
theorem gl_icmp_le {x y : Int32} {off : Int} {tgt : Nat} (hc : gl_C B E own cc nL d N) (hd : decode cc pc = .ok (.if_icmp .le off, 3)) (ht : (pc : Int) + off = (tgt : Int)) (hp : pc + 3 = pc') (kt : x ≤ y → gl_V B E U tgt L st τ) (kf : ¬ x ≤ y → gl_V B E U pc' L st τ) : gl_V B E U pc L (.int y :: .int x :: st) τ := by
  subst hp
  obtain ⟨p, l, e, R, s, m, args, below, meth, c, cells, slots, Q, G⟩ := E
  obtain ⟨hx, hb, hml, hown, hts, hI, hR⟩ := hc
  subst hml
  intro j hj H locs ls hP hS hl
  exact lv_icmp_le hx hb hd ht (fun h => kt h j hj H locs ls hP hS hl) (fun h => kf h j hj H locs ls hP hS hl)
theorem gl_if_eq {x : Int32} {off : Int} {tgt : Nat} (hc : gl_C B E own cc nL d N) (hd : decode cc pc = .ok (.ifCond .eq off, 3)) (ht : (pc : Int) + off = (tgt : Int)) (hp : pc + 3 = pc') (kt : x = 0 → gl_V B E U tgt L st τ) (kf : ¬ x = 0 → gl_V B E U pc' L st τ) : gl_V B E U pc L (.int x :: st) τ := by
  subst hp
  obtain ⟨p, l, e, R, s, m, args, below, meth, c, cells, slots, Q, G⟩ := E
  obtain ⟨hx, hb, hml, hown, hts, hI, hR⟩ := hc
  subst hml
  intro j hj H locs ls hP hS hl
  exact lv_if_eq hx hb hd ht (fun h => kt h j hj H locs ls hP hS hl) (fun h => kf h j hj H locs ls hP hS hl)
theorem gl_if_ne {x : Int32} {off : Int} {tgt : Nat} (hc : gl_C B E own cc nL d N) (hd : decode cc pc = .ok (.ifCond .ne off, 3)) (ht : (pc : Int) + off = (tgt : Int)) (hp : pc + 3 = pc') (kt : ¬ x = 0 → gl_V B E U tgt L st τ) (kf : x = 0 → gl_V B E U pc' L st τ) : gl_V B E U pc L (.int x :: st) τ := by
  subst hp
  obtain ⟨p, l, e, R, s, m, args, below, meth, c, cells, slots, Q, G⟩ := E
  obtain ⟨hx, hb, hml, hown, hts, hI, hR⟩ := hc
  subst hml
  intro j hj H locs ls hP hS hl
  exact lv_if_ne hx hb hd ht (fun h => kt h j hj H locs ls hP hS hl) (fun h => kf h j hj H locs ls hP hS hl)
theorem gl_if_lt {x : Int32} {off : Int} {tgt : Nat} (hc : gl_C B E own cc nL d N) (hd : decode cc pc = .ok (.ifCond .lt off, 3)) (ht : (pc : Int) + off = (tgt : Int)) (hp : pc + 3 = pc') (kt : x < 0 → gl_V B E U tgt L st τ) (kf : ¬ x < 0 → gl_V B E U pc' L st τ) : gl_V B E U pc L (.int x :: st) τ := by
  subst hp
  obtain ⟨p, l, e, R, s, m, args, below, meth, c, cells, slots, Q, G⟩ := E
  obtain ⟨hx, hb, hml, hown, hts, hI, hR⟩ := hc
  subst hml
  intro j hj H locs ls hP hS hl
  exact lv_if_lt hx hb hd ht (fun h => kt h j hj H locs ls hP hS hl) (fun h => kf h j hj H locs ls hP hS hl)
theorem gl_if_ge {x : Int32} {off : Int} {tgt : Nat} (hc : gl_C B E own cc nL d N) (hd : decode cc pc = .ok (.ifCond .ge off, 3)) (ht : (pc : Int) + off = (tgt : Int)) (hp : pc + 3 = pc') (kt : 0 ≤ x → gl_V B E U tgt L st τ) (kf : ¬ 0 ≤ x → gl_V B E U pc' L st τ) : gl_V B E U pc L (.int x :: st) τ := by
  subst hp
  obtain ⟨p, l, e, R, s, m, args, below, meth, c, cells, slots, Q, G⟩ := E
  obtain ⟨hx, hb, hml, hown, hts, hI, hR⟩ := hc
  subst hml
  intro j hj H locs ls hP hS hl
  exact lv_if_ge hx hb hd ht (fun h => kt h j hj H locs ls hP hS hl) (fun h => kf h j hj H locs ls hP hS hl)
theorem gl_if_gt {x : Int32} {off : Int} {tgt : Nat} (hc : gl_C B E own cc nL d N) (hd : decode cc pc = .ok (.ifCond .gt off, 3)) (ht : (pc : Int) + off = (tgt : Int)) (hp : pc + 3 = pc') (kt : 0 < x → gl_V B E U tgt L st τ) (kf : ¬ 0 < x → gl_V B E U pc' L st τ) : gl_V B E U pc L (.int x :: st) τ := by
  subst hp
  obtain ⟨p, l, e, R, s, m, args, below, meth, c, cells, slots, Q, G⟩ := E
  obtain ⟨hx, hb, hml, hown, hts, hI, hR⟩ := hc
  subst hml
  intro j hj H locs ls hP hS hl
  exact lv_if_gt hx hb hd ht (fun h => kt h j hj H locs ls hP hS hl) (fun h => kf h j hj H locs ls hP hS hl)
theorem gl_if_le {x : Int32} {off : Int} {tgt : Nat} (hc : gl_C B E own cc nL d N) (hd : decode cc pc = .ok (.ifCond .le off, 3)) (ht : (pc : Int) + off = (tgt : Int)) (hp : pc + 3 = pc') (kt : x ≤ 0 → gl_V B E U tgt L st τ) (kf : ¬ x ≤ 0 → gl_V B E U pc' L st τ) : gl_V B E U pc L (.int x :: st) τ := by
  subst hp
  obtain ⟨p, l, e, R, s, m, args, below, meth, c, cells, slots, Q, G⟩ := E
  obtain ⟨hx, hb, hml, hown, hts, hI, hR⟩ := hc
  subst hml
  intro j hj H locs ls hP hS hl
  exact lv_if_le hx hb hd ht (fun h => kt h j hj H locs ls hP hS hl) (fun h => kf h j hj H locs ls hP hS hl)
end GLROWS
/-! ===== a part of a world; calls ===== -/
def gl_I {T : Type} (B : gl_B T) (G : jv_G) (τ : T) (U : State) : Prop := B.2.2 G U ∧ B.1 G τ U.heap
def gl_Q {T : Type} (B : gl_B T) (G : jv_G) (v : Int32) (τ : T) : Array Value → State → Outcome → State → Prop := fun _ st oc t => oc = .returned (some (.int v)) ∧ B.1 G τ t.heap ∧ va_F (B.2.1 G) st t
def gl_M0 {T : Type} (B : gl_B T) (G : jv_G) (l : Launch) (d : Nat) (M : jv_M) (w : Cond) (As : List Value) (τ : T) (v : Int32) (τ' : T) (n : Nat) : Prop :=
  Met l M.1 (w :: jv_WS) (jv_R d n (6 * n)) (va_Pc (As.map (jv_cv G)) (gl_I B G τ)) (gl_Q B G v τ') n (6 * n) (B.2.1 G)
def gl_cd (M : jv_M) : Cond := .code M.1 M.2.1 M.2.2.1 M.2.2.2
def gl_cw (M : jv_M) (hh : List (Nat × Nat × Nat × Nat)) : Cond := .codeWith M.1 M.2.1 M.2.2.1 M.2.2.2 hh
def gl_Sub {T T1 : Type} (B : gl_B T) (B1 : gl_B T1) (G G1 : jv_G) (get : T → T1) (put : T → T1 → T) : Prop :=
  (∀ (s U : State) (τ : T) (H : Heap) (locs : List Loc), B.2.2 G s → B.1 G τ H → va_S (B.2.1 G) s.heap H locs → U.heap = H → s.WarmedH U.vm → B1.2.2 G1 U ∧ B1.1 G1 (get τ) U.heap) ∧
  (∀ (s : State) (τ : T) (H H1 : Heap) (σ' : T1), B.2.2 G s → B.1 G τ H → B1.1 G1 σ' H1 → (∀ q : Nat, q < H.size → ¬ B1.2.1 G1 q → H1[q]? = H[q]?) → B.1 G (put τ σ') H1) ∧
  (∀ q, B1.2.1 G1 q → B.2.1 G q) ∧ ∀ (τ : T) (H : Heap), B.1 G τ H → B1.1 G1 (get τ) H
theorem gl_s1 {G : jv_G} : gl_Sub gl_1 gl_1 G G (fun σ => σ) (fun _ σ => σ) := by
  refine ⟨fun s U τ H locs hI hP hS hU hW => ?_, fun s τ H H1 σ' hI hP h1 hk => h1, fun q h => h, fun τ H h => h⟩
  obtain ⟨hX, hZ, hD, hB⟩ := hI
  subst hU
  exact ⟨⟨hX.warm hW, hZ.warm hW.alike hS, hD, Nat.le_trans hB hS.1⟩, hP⟩
theorem gl_A2L {G : jv_G} {q : Nat} (h : jv_A G q) : gl_A2 G q := ⟨h.1, by have := h.2; omega⟩
theorem gl_A2R {G : jv_G} {q : Nat} (h : jv_A (jv_rt G) q) : gl_A2 G q := by
  have h1 : G.2.2.2 + 35 ≤ q := h.1
  have h2 : q < G.2.2.2 + 35 + 35 := h.2
  exact ⟨by omega, by omega⟩
theorem gl_LR {G : jv_G} {q : Nat} (h : jv_A G q) (h' : jv_A (jv_rt G) q) : False := by
  have h1 : G.2.2.2 + 35 ≤ q := h'.1
  have := h.2
  omega
theorem gl_Z2.warm {G : jv_G} {s U : State} {H0 H : Heap} {locs : List Loc} (hA : s.vm.Alike U.vm) (hS : va_S (gl_A2 G) H0 H locs) (h : gl_Z2 G s H0) : gl_Z2 G U H :=
  ⟨vx_Zq.moved hA (h.1.kept hS.2.1), vx_Zq.moved hA (h.2.kept hS.2.1)⟩
theorem gl_Z2.L {G : jv_G} {U : State} {H : Heap} (h : gl_Z2 G U H) : jv_Z G U H := ⟨h.1.narrow (fun _ => gl_A2L), h.2.narrow (fun _ => gl_A2L)⟩
theorem gl_Z2.R {G : jv_G} {U : State} {H : Heap} (h : gl_Z2 G U H) : jv_Z (jv_rt G) U H := ⟨h.1.narrow (fun _ => gl_A2R), h.2.narrow (fun _ => gl_A2R)⟩
theorem gl_0 {G : jv_G} {σ : jv_S} {H : Heap} (hD : jv_D G jv_os) (hP : va_P G.1 vwCl (jv_ws G jv_os σ) H) : G.2.2.2 ≤ H.size := by
  have h0 := hD.2 0 (Nat.le_of_ble_eq_true rfl)
  have h1 := vx_lt hP (jv_ws_at (k := 0) (o := .inl (7, [4, 11, 13, 17, 20, 27, 35, 0, 0])) rfl)
  exact Nat.le_of_lt (Nat.lt_of_le_of_lt h0.1 h1)
/-- the cells of one object's world stay where another's alone may change -/
theorem gl_keep {G : jv_G} {σ : jv_S} {H H1 : Heap} {A : Nat → Prop} (hD : jv_D G jv_os) (hA : ∀ q, jv_A G q → ¬ A q) (hP : va_P G.1 vwCl (jv_ws G jv_os σ) H) (hk : ∀ q : Nat, q < H.size → ¬ A q → H1[q]? = H[q]?) : va_P G.1 vwCl (jv_ws G jv_os σ) H1 :=
  fun k q hq => (hP k q hq).kept (hk q.1 (vx_lt hP hq) (hA _ (hD.va.2 k q hq)))
theorem gl_sL {G : jv_G} : gl_Sub gl_2 gl_1 G G (fun τ => τ.1) (fun τ σ => (σ, τ.2)) := by
  refine ⟨fun s U τ H locs hI hP hS hU hW => ?_, fun s τ H H1 σ' hI hP h1 hk => ⟨h1, ?_⟩, fun q h => gl_A2L h, fun τ H h => h.1⟩
  · obtain ⟨hX, hZ, hD, hD2⟩ := hI
    subst hU
    exact ⟨⟨hX.warm hW, (hZ.warm hW.alike hS).L, hD, gl_0 hD hP.1⟩, hP.1⟩
  · exact gl_keep (G := jv_rt G) hI.2.2.2 (fun q h h' => gl_LR h' h) hP.2 hk
theorem gl_sR {G : jv_G} : gl_Sub gl_2 gl_1 G (jv_rt G) (fun τ => τ.2) (fun τ σ => (τ.1, σ)) := by
  refine ⟨fun s U τ H locs hI hP hS hU hW => ?_, fun s τ H H1 σ' hI hP h1 hk => ⟨?_, h1⟩, fun q h => gl_A2R h, fun τ H h => h.2⟩
  · obtain ⟨hX, hZ, hD, hD2⟩ := hI
    subst hU
    have h0 : (jv_rt G).2.2.2 ≤ U.heap.size := gl_0 hD2 hP.2
    exact ⟨⟨hX.warm hW, (hZ.warm hW.alike hS).R, hD2, h0⟩, hP.2⟩
  · exact gl_keep hI.2.2.1 (fun q h h' => gl_LR h h') hP.1 hk
theorem gl_s2 {G : jv_G} : gl_Sub gl_2 gl_2 G G (fun τ => τ) (fun _ τ => τ) := by
  refine ⟨fun s U τ H locs hI hP hS hU hW => ?_, fun s τ H H1 σ' hI hP h1 hk => h1, fun q h => h, fun τ H h => h⟩
  obtain ⟨hX, hZ, hD, hD2⟩ := hI
  subst hU
  exact ⟨⟨hX.warm hW, hZ.warm hW.alike hS, hD, hD2⟩, hP⟩
/-- a world stays when a callee's frame is put in -/
def gl_Bl {T : Type} (B : gl_B T) : Prop := ∀ (G : jv_G) (τ : T) (U : State) (g : JFrame) (mk : MethodId) (a : Array Value), gl_I B G τ U → gl_I B G τ (U.calling g mk a)
theorem gl_b1 : gl_Bl gl_1 := by
  intro G τ U g mk a h
  obtain ⟨⟨h1, h2, h4, h5⟩, h3⟩ := h
  exact ⟨⟨h1.warm (State.WarmedH.refl U), ⟨vx_Zq.moved (Vm.Alike.refl U.vm) h2.1, vx_Zq.moved (Vm.Alike.refl U.vm) h2.2⟩, h4, h5⟩, h3⟩
theorem gl_b2 : gl_Bl gl_2 := by
  intro G τ U g mk a h
  obtain ⟨⟨h1, h2, h4, h5⟩, h3⟩ := h
  exact ⟨⟨h1.warm (State.WarmedH.refl U), ⟨vx_Zq.moved (Vm.Alike.refl U.vm) h2.1, vx_Zq.moved (Vm.Alike.refl U.vm) h2.2⟩, h4, h5⟩, h3⟩
section GLCALLS
variable {T T1 : Type} {B : gl_B T} {B1 : gl_B T1} {G1 : jv_G} {get : T → T1} {put : T → T1 → T}
theorem gl_go {p : Program} {l : Launch} {e : Env} {R : Room} {s : State} {m : MethodId} {args : Array Value} {below : List Frame} {meth : Method} {c : Code} {H : Heap} {locs : List Loc} {cells slots mc ms : Nat} {Q : State → Prop} {G : jv_G} {pc : Nat} {ls : Array Slot} {st0 rest : List Value} {τ : T} {σ' : T1} {ov : Option Value} {Qa : State → Outcome → State → Prop}
    (sub : gl_Sub B B1 G G1 get put) (hI : B.2.2 G s) (hQ : ∀ st oc t, Qa st oc t → oc = .returned ov ∧ B1.1 G1 σ' t.heap ∧ va_F (B1.2.1 G1) st t)
    (hr : va_Run p l e R s m args below meth c H locs cells slots mc ms (F0 m pc ls st0) rest Qa (B1.2.1 G1)) (hP : B.1 G τ H) (hS : va_S (B.2.1 G) s.heap H locs)
    (kk : ∀ (H1 : Heap) (locs1 : List Loc), B.1 G (put τ σ') H1 → va_S (B.2.1 G) s.heap H1 locs1 → W p l e R s m args below meth c H1 locs1 (cells + mc) (slots + ms) Q (F0 m (pc + 3) ls (ov.toList ++ rest))) : W p l e R s m args below meth c H locs cells slots Q (F0 m pc ls st0) := by
  intro Ts hT X
  obtain ⟨v, st₀, t, T', L, h0, X', hL, e1, e2, hq, st⟩ := hr Ts hT X
  obtain ⟨hv, h1, hz, hk⟩ := hQ _ _ _ hq
  cases hv
  rw [h0] at hz hk
  obtain ⟨t2, a1, b1⟩ := kk T'.heap (locs ++ L) (sub.2.1 s τ H T'.heap σ' hI hP (by rw [e1]; exact h1) (fun q h1 h2 => by rw [e1]; exact hk q h1 h2))
    ⟨Nat.le_trans hS.1 (by rw [e1]; exact hz), fun q h1 h2 => by rw [e1, hk q (Nat.lt_of_lt_of_le h1 hS.1) (fun h => h2 (sub.2.2.1 q h))]; exact hS.2.1 q h1 h2, fun q hq => by
      rcases List.mem_append.mp hq with h | h
      · exact hS.2.2 q h
      · exact sub.2.2.1 _ (hL q h)⟩ T' rfl X'
  exact ⟨t2, st t2 a1, b1⟩
theorem gl_goX {p : Program} {l : Launch} {e : Env} {R : Room} {s : State} {m : MethodId} {args : Array Value} {below : List Frame} {meth : Method} {c : Code} {H : Heap} {locs : List Loc} {cells slots : Nat} {Q : State → Prop} {G : jv_G} {pc : Nat} {ls : Array Slot} {st0 rest : List Value} {τ : T} {get : T → jv_S} {put : T → jv_S → T} {σ' : jv_S} {E0 : String} {a : Array Value}
    (sub : gl_Sub B gl_1 G G1 get put) (hI : B.2.2 G s) (hr : vx_Run p l e R s m args below meth c H locs cells slots 1 6 (F0 m pc ls st0) rest (jv_QF a) (jv_XC G1 E0 σ') (jv_A G1)) (hP : B.1 G τ H) (hS : va_S (B.2.1 G) s.heap H locs)
    (kk : ∀ (ce : Cell) (q : Addr) (H1 : Heap) (locs1 : List Loc), B.1 G (put τ σ') H1 → va_S (B.2.1 G) s.heap H1 locs1 → H1[q]? = some ce → ce.vm = .none → s.vm.findClass E0 = some ce.cls → vx_W p l e R s m args below meth c H1 locs1 (cells + 1) (slots + 6) Q (F0 m pc ls rest) q) : W p l e R s m args below meth c H locs cells slots Q (F0 m pc ls st0) := by
  intro Ts hT X
  rcases hr Ts hT X with ⟨v, st₀, t, T', L, h0, X', hL, e1, e2, hF, st⟩ | ⟨q, st₀, t, T', L, E, ce, h0, X', hL, e1, e2, ⟨hE, h1, hz, hk⟩, hce, hcv, hcl, st⟩
  · exact hF.elim
  · subst hE
    rw [h0] at hz hk
    obtain ⟨t2, a1, b1⟩ := kk ce q T'.heap (locs ++ L) (sub.2.1 s τ H T'.heap σ' hI hP (by rw [e1]; exact h1) (fun q h1 h2 => by rw [e1]; exact hk q h1 h2))
      ⟨Nat.le_trans hS.1 (by rw [e1]; exact hz), fun q h1 h2 => by rw [e1, hk q (Nat.lt_of_lt_of_le h1 hS.1) (fun h => h2 (sub.2.2.1 q h))]; exact hS.2.1 q h1 h2, fun q hq => by
        rcases List.mem_append.mp hq with h | h
        · exact hS.2.2 q h
        · exact sub.2.2.1 _ (hL q h)⟩ (by rw [e1]; exact hce) hcv hcl T' rfl X'
    exact ⟨t2, st.trans a1, b1⟩
end GLCALLS
section GLCALLS2
variable {T T1 : Type} {B : gl_B T} {B1 : gl_B T1} {E : jv_E} {own : String} {cc : ByteArray} {nL d d' N U pc pc' index n : Nat} {L : List (Option Value)} {st st0 : List Value} {τ : T} {M : jv_M} {As As1 : List Value}
def jv_MW (own : String) (index : Nat) (M : jv_M) (hh : List (Nat × Nat × Nat × Nat)) (n : Nat) : Prop := Cond.codeWith M.1 M.2.1 M.2.2.1 M.2.2.2 hh ∈ jv_WS ∧ Cond.initialized M.1.cls ∈ jv_WS ∧ (M.1.cls ≠ "java/lang/invoke/MethodHandle" ∧ M.1.cls ≠ "java/lang/invoke/VarHandle" ∧ (parseMethodDescriptor M.1.desc).map (fun d => d.parameters.length) = some n) ∧ M.2.2.1 ≤ 45 ∧ Cond.methodLink own index M.1 ∈ jv_WS ∧ Cond.static M.1 ∈ jv_WS
/-- a class's method, called by name on an object -/
theorem gl_callV {get : T → jv_S} {put : T → jv_S → T} {gg : jv_G → jv_G} {k0 k1 ci : Nat} {fc : List Nat} {Tb : u_T} {Nb : Nat} {o : Option Value} {σ' : jv_S} (hc : gl_C B E own cc nL d N) (sub : ∀ G, gl_Sub B gl_1 G (gg G) get put) (hd : decode cc pc = .ok (.invokevirtual index, 3)) (hp : pc + 3 = pc') (hm : jv_MV own index M n) (hM : jv_Cn (gg (jv_g E)) (jv_l E) d' M (.ref k1 :: As1) (get τ) o σ')
    (hgg : ∀ G, (gg G).1 = G.1) (hk : ∀ G, jv_cv G (.ref k0) = jv_cv (gg G) (.ref k1)) (hAs : ∀ G, As.map (jv_cv G) = As1.map (jv_cv (gg G))) (hov : ∀ G, o.map (jv_cv (gg G)) = o.map (jv_cv G)) (hn : As.length = n) (ho : jv_os[k1]? = some (.inl (ci, fc))) (hci : vwCl[ci]? = some (M.1.cls, Tb, Nb)) (hdd : d' < d) (hst : As.reverse ++ .ref k0 :: st = st0) (hroom : (st.map fun v => v.category).sum ≤ 8) (hU : U ≤ N)
    (k : gl_V B E U pc' L (o.toList ++ st) (put τ σ')) : gl_V B E U pc L st0 τ := by
  subst hp; subst hst
  obtain ⟨p, l, e, R, s, m, args, below, meth, c, cells, slots, Q, G⟩ := E
  obtain ⟨hx, hb, hml, hown, hts, hI, hXX, hR1, hR2, hR3, hR4⟩ := hc
  obtain ⟨⟨hm1, hm2, hm3, hm4⟩, hm5, hm6, hm7⟩ := hm
  subst hml
  intro j hj H locs ls hP hS hl
  have hcw : CallW R s args own M.1.cls index M.1 M.2.1 M.2.2.1 M.2.2.2 (.code M.1 M.2.1 M.2.2.1 M.2.2.2 :: jv_WS) (jv_R d' 0 0) 0 0 n := by
    refine cwV (Ts := jv_WS) n hts (goodIn_app (fun w hw => ?_) (jv_goodc hm1)) rfl rfl rfl ⟨rfl, hm3⟩ ⟨?_, ?_⟩
    · simp only [List.mem_cons, List.not_mem_nil, or_false] at hw
      rcases hw with rfl | rfl | rfl | rfl
      · exact jv_good _ hm5
      · exact jv_good _ hm6
      · exact jv_good _ hm7
      · exact jv_good _ hm2
    · show d' + 12 + 1 ≤ R.frames
      omega
    · exact jv_loc hm4 hdd hR2
  have hpre : ∀ U : State, U.heap = H → s.WarmedH U.vm → va_Pc ((Value.ref k1 :: As1).map (jv_cv (gg G))) (jv_I (gg G) jv_os jv_strs (get τ)) ((Value.ref k1 :: As1).map (jv_cv (gg G))).toArray U := by
    intro U hU hW
    obtain ⟨⟨a1, a2, a3, a4⟩, a5⟩ := (sub G).1 s U τ H locs hI hP hS hU hW
    exact ⟨rfl, a1, a2, a5, a3, a4⟩
  refine gl_go (B := B) (B1 := gl_1) (sub G) (σ' := σ') (τ := τ) (ov := o.map (jv_cv (gg G))) hI (fun st oc t h => h) (mc := 0) (ms := 0) (rest := st.map (jv_cv G))
    (va_runV (cc := cc) (nL := c.maxLocals) (own := own) (n := n) (As := As1.map (jv_cv (gg G))) (b := (gg G).2.1 k1) (Ts := jv_WS) ⟨hx, hb, rfl, hown, hts⟩ hM hcw ⟨jv_blind, ?_, hpre⟩ rfl (by rw [← hAs, List.length_map]; exact hn) hl.1 ?_ (lv_room (rest := []) (m := m) (pc := pc) (ls := ls) (jv_sum hroom)) hd ⟨by omega, by omega⟩) hP hS (fun H1 locs1 hP1 hS1 => ?_)
  · have a5 : va_P (gg G).1 vwCl (jv_ws (gg G) jv_os (get τ)) H := (sub G).2.2.2 τ H hP
    rw [hgg G] at a5
    exact va_recv hXX.1 a5 hci (jv_ws_at ho)
  · show List.map (jv_cv G) (As.reverse ++ .ref k0 :: st) = _
    rw [List.map_append, List.map_reverse, List.map_cons, hAs, hk]; rfl
  · have := k j hj H1 locs1 ls hP1 hS1 hl
    rw [List.map_append] at this
    rw [hov G]
    cases o <;> exact this
/-- a static method with a class method's contract -/
theorem gl_callS1 {get : T → jv_S} {put : T → jv_S → T} {gg : jv_G → jv_G} {o : Option Value} {σ' : jv_S} (hc : gl_C B E own cc nL d N) (sub : ∀ G, gl_Sub B gl_1 G (gg G) get put) (hd : decode cc pc = .ok (.invokestatic index, 3)) (hp : pc + 3 = pc') (hm : jv_MS own index M n) (hM : jv_Cn (gg (jv_g E)) (jv_l E) d' M As1 (get τ) o σ')
    (hAs : ∀ G, As.map (jv_cv G) = As1.map (jv_cv (gg G))) (hov : ∀ G, o.map (jv_cv (gg G)) = o.map (jv_cv G)) (hn : As.length = n) (hdd : d' < d) (hst : As.reverse ++ st = st0) (hroom : (st.map fun v => v.category).sum ≤ 8) (hU : U ≤ N)
    (k : gl_V B E U pc' L (o.toList ++ st) (put τ σ')) : gl_V B E U pc L st0 τ := by
  subst hp; subst hst
  obtain ⟨p, l, e, R, s, m, args, below, meth, c, cells, slots, Q, G⟩ := E
  obtain ⟨hx, hb, hml, hown, hts, hI, hXX, hR1, hR2, hR3, hR4⟩ := hc
  obtain ⟨⟨hm1, hm2, hm3, hm4⟩, hm5, hm6⟩ := hm
  subst hml
  intro j hj H locs ls hP hS hl
  have hcw : CallB R s args own index M.1 M.2.1 M.2.2.1 M.2.2.2 (.code M.1 M.2.1 M.2.2.1 M.2.2.2 :: jv_WS) (jv_R d' 0 0) 0 0 n ∧ (Cond.static M.1).before args s = true := by
    refine ⟨callB_of (Ts := jv_WS) n hts (jv_goodc hm1) rfl rfl rfl (hts _ hm2) (hts _ hm5) hm3 ⟨?_, ?_⟩, hts _ hm6⟩
    · show d' + 12 + 1 ≤ R.frames
      omega
    · exact jv_loc hm4 hdd hR2
  have hpre : ∀ U : State, U.heap = H → s.WarmedH U.vm → va_Pc (As1.map (jv_cv (gg G))) (jv_I (gg G) jv_os jv_strs (get τ)) (As1.map (jv_cv (gg G))).toArray U := by
    intro U hU hW
    obtain ⟨⟨a1, a2, a3, a4⟩, a5⟩ := (sub G).1 s U τ H locs hI hP hS hU hW
    exact ⟨rfl, a1, a2, a5, a3, a4⟩
  refine gl_go (B := B) (B1 := gl_1) (sub G) (σ' := σ') (τ := τ) (ov := o.map (jv_cv (gg G))) hI (fun st oc t h => h) (mc := 0) (ms := 0) (rest := st.map (jv_cv G))
    (va_runS (cc := cc) (nL := c.maxLocals) (own := own) (n := n) (As := As1.map (jv_cv (gg G))) (Ts := jv_WS) ⟨hx, hb, rfl, hown, hts⟩ hM hcw ⟨jv_blind, hpre⟩ rfl (by rw [← hAs, List.length_map]; exact hn) hl.1 ?_ (lv_room (rest := []) (m := m) (pc := pc) (ls := ls) (jv_sum hroom)) hd ⟨by omega, by omega⟩) hP hS (fun H1 locs1 hP1 hS1 => ?_)
  · show List.map (jv_cv G) (As.reverse ++ st) = _
    rw [List.map_append, List.map_reverse, hAs]
  · have := k j hj H1 locs1 ls hP1 hS1 hl
    rw [List.map_append] at this
    rw [hov G]
    cases o <;> exact this
/-- one of the law's methods, that makes at most n9 exceptions -/
theorem gl_callL {get : T → T1} {put : T → T1 → T} {gg : jv_G → jv_G} {v : Int32} {n9 : Nat} {σ' : T1} (hc : gl_C B E own cc nL d N) (sub : ∀ G, gl_Sub B B1 G (gg G) get put) (hbl : gl_Bl B1) (hd : decode cc pc = .ok (.invokestatic index, 3)) (hp : pc + 3 = pc') (hm : jv_MS own index M n) (hM : gl_M0 B1 (gg (jv_g E)) (jv_l E) d' M (gl_cd M) As1 (get τ) v σ' n9)
    (hAs : ∀ G, As.map (jv_cv G) = As1.map (jv_cv (gg G))) (hn : As.length = n) (hdd : d' < d) (hst : As.reverse ++ st = st0) (hroom : (st.map fun v => v.category).sum ≤ 8) (hU : U + n9 ≤ N)
    (k : gl_V B E (U + n9) pc' L (.int v :: st) (put τ σ')) : gl_V B E U pc L st0 τ := by
  subst hp; subst hst
  obtain ⟨p, l, e, R, s, m, args, below, meth, c, cells, slots, Q, G⟩ := E
  obtain ⟨hx, hb, hml, hown, hts, hI, hXX, hR1, hR2, hR3, hR4⟩ := hc
  obtain ⟨⟨hm1, hm2, hm3, hm4⟩, hm5, hm6⟩ := hm
  subst hml
  intro j hj H locs ls hP hS hl
  have hcw : CallB R s args own index M.1 M.2.1 M.2.2.1 M.2.2.2 (gl_cd M :: jv_WS) (jv_R d' n9 (6 * n9)) n9 (6 * n9) n ∧ (Cond.static M.1).before args s = true := by
    refine ⟨callB_of (Ts := jv_WS) n hts (jv_goodc hm1) rfl rfl rfl (hts _ hm2) (hts _ hm5) hm3 ⟨?_, ?_⟩, hts _ hm6⟩
    · show d' + 12 + 1 ≤ R.frames
      omega
    · exact jv_loc hm4 hdd hR2
  have hpre : ∀ U : State, U.heap = H → s.WarmedH U.vm → va_Pc (As1.map (jv_cv (gg G))) (gl_I B1 (gg G) (get τ)) (As1.map (jv_cv (gg G))).toArray U := fun U hU hW => ⟨rfl, (sub G).1 s U τ H locs hI hP hS hU hW⟩
  refine gl_go (B := B) (B1 := B1) (sub G) (σ' := σ') (τ := τ) (ov := some (.int v)) hI (fun st oc t h => h) (mc := n9) (ms := 6 * n9) (rest := st.map (jv_cv G))
    (va_runS (cc := cc) (nL := c.maxLocals) (own := own) (n := n) (As := As1.map (jv_cv (gg G))) (Ts := jv_WS) ⟨hx, hb, rfl, hown, hts⟩ hM hcw ⟨fun _ _ _ _ h => ⟨h.1, hbl _ _ _ _ _ _ h.2⟩, hpre⟩ rfl (by rw [← hAs, List.length_map]; exact hn) hl.1 ?_ (lv_room (rest := []) (m := m) (pc := pc) (ls := ls) (jv_sum hroom)) hd ⟨by omega, by omega⟩) hP hS (fun H1 locs1 hP1 hS1 => ?_)
  · show List.map (jv_cv G) (As.reverse ++ st) = _
    rw [List.map_append, List.map_reverse, hAs]
  · have := k (j + n9) (by omega) H1 locs1 ls hP1 hS1 hl
    rw [show cells + (j + n9) = cells + j + n9 by omega, show slots + 6 * (j + n9) = slots + 6 * j + 6 * n9 by omega] at this
    exact this
/-- .. that has a table of handlers -/
theorem gl_callW {get : T → T1} {put : T → T1 → T} {gg : jv_G → jv_G} {v : Int32} {n9 : Nat} {σ' : T1} {hh : List (Nat × Nat × Nat × Nat)} (hc : gl_C B E own cc nL d N) (sub : ∀ G, gl_Sub B B1 G (gg G) get put) (hbl : gl_Bl B1) (hd : decode cc pc = .ok (.invokestatic index, 3)) (hp : pc + 3 = pc') (hm : jv_MW own index M hh n) (hM : gl_M0 B1 (gg (jv_g E)) (jv_l E) d' M (gl_cw M hh) As1 (get τ) v σ' n9)
    (hAs : ∀ G, As.map (jv_cv G) = As1.map (jv_cv (gg G))) (hn : As.length = n) (hdd : d' < d) (hst : As.reverse ++ st = st0) (hroom : (st.map fun v => v.category).sum ≤ 8) (hU : U + n9 ≤ N)
    (k : gl_V B E (U + n9) pc' L (.int v :: st) (put τ σ')) : gl_V B E U pc L st0 τ := by
  subst hp; subst hst
  obtain ⟨p, l, e, R, s, m, args, below, meth, c, cells, slots, Q, G⟩ := E
  obtain ⟨hx, hb, hml, hown, hts, hI, hXX, hR1, hR2, hR3, hR4⟩ := hc
  obtain ⟨hm1, hm2, hm3, hm4, hm5, hm6⟩ := hm
  subst hml
  intro j hj H locs ls hP hS hl
  have hcw : vx_CSW R s args own index M.1 M.2.1 M.2.2.1 M.2.2.2 hh (gl_cw M hh :: jv_WS) (jv_R d' n9 (6 * n9)) n9 (6 * n9) n := by
    refine ⟨⟨rfl, rfl, ?_, jv_loc hm4 hdd hR2, pay_in hts (jv_goodc hm1), List.mem_cons_self⟩, hts _ hm1, hts _ hm2, ⟨hm3.1, hm3.2.1⟩, fun sig h => ?_, hts _ hm5, hts _ hm6⟩
    · show d' + 12 + 1 ≤ R.frames
      omega
    · have h2 := hm3.2.2
      rw [h] at h2
      exact (Option.some.inj h2).symm
  have hpre : ∀ U : State, U.heap = H → s.WarmedH U.vm → va_Pc (As1.map (jv_cv (gg G))) (gl_I B1 (gg G) (get τ)) (As1.map (jv_cv (gg G))).toArray U := fun U hU hW => ⟨rfl, (sub G).1 s U τ H locs hI hP hS hU hW⟩
  refine gl_go (B := B) (B1 := B1) (sub G) (σ' := σ') (τ := τ) (ov := some (.int v)) hI (fun st oc t h => h) (mc := n9) (ms := 6 * n9) (rest := st.map (jv_cv G))
    (vx_runSW (cc := cc) (nL := c.maxLocals) (own := own) (n := n) (hh := hh) (As := As1.map (jv_cv (gg G))) (Ts := jv_WS) ⟨hx, hb, rfl, hown, hts⟩ hM hcw ⟨fun _ _ _ _ h => ⟨h.1, hbl _ _ _ _ _ _ h.2⟩, hpre⟩ rfl (by rw [← hAs, List.length_map]; exact hn) hl.1 ?_ (lv_room (rest := []) (m := m) (pc := pc) (ls := ls) (jv_sum hroom)) hd ⟨by omega, by omega⟩) hP hS (fun H1 locs1 hP1 hS1 => ?_)
  · show List.map (jv_cv G) (As.reverse ++ st) = _
    rw [List.map_append, List.map_reverse, hAs]
  · have := k (j + n9) (by omega) H1 locs1 ls hP1 hS1 hl
    rw [show cells + (j + n9) = cells + j + n9 by omega, show slots + 6 * (j + n9) = slots + 6 * j + 6 * n9 by omega] at this
    exact this
def gl_Tb (E : jv_E) (hh : List (Nat × Nat × Nat × Nat)) : Prop := match E with
  | (_, _, _, _, _, _, _, _, _, c, _, _, _, _) => c.exceptionTable.toList = tableOf hh
/-- the row of the table that takes E0 thrown at pc -/
def gl_Ca (hh : List (Nat × Nat × Nat × Nat)) (pc : Nat) (E0 : String) (hpc : Nat) : Prop := ∃ (pre : List ExceptionTableEntry) (x : ExceptionTableEntry) (suf : List ExceptionTableEntry) (name : String), tableOf hh = pre ++ x :: suf ∧
  (∀ z ∈ pre, covers z pc = false ∨ (z.catchType ≠ 0 ∧ ∃ nm : String, Cond.classLink RL z.catchType nm ∈ jv_WS ∧ (E0, nm) ∈ jv_ncs)) ∧ covers x pc = true ∧ x.catchType ≠ 0 ∧ Cond.classLink RL x.catchType name ∈ jv_WS ∧ Cond.castable E0 name ∈ lw_tbl ∧ x.handlerPc = hpc
def gl_Sto (cc : ByteArray) (hpc i pc' : Nat) : Prop := (∃ k4 : Fin 4, (k4 : Nat) = i ∧ decode cc hpc = .ok (.astore_n k4, 1) ∧ pc' = hpc + 1) ∨ (decode cc hpc = .ok (.astore i, 2) ∧ pc' = hpc + 2)
theorem gl_stored {ls : Array Slot} {nL i : Nat} {lv : List (Nat × Value)} {v : Value} (h : lv_has ls nL ((i, v) :: lv)) : lv_has ls nL [] := ⟨h.1, h.2.1, fun q hq => nomatch hq⟩
/-- a class's method that throws, in a frame of the law that catches -/
theorem gl_callC {k0 ci : Nat} {fc : List Nat} {Tb : u_T} {Nb : Nat} {E0 : String} {hpc i : Nat} {hh : List (Nat × Nat × Nat × Nat)} {σ σ' : jv_S} (hc : gl_C gl_1 E RL cc nL d N) (hT : gl_Tb E hh) (hd : decode cc pc = .ok (.invokevirtual index, 3)) (hm : jv_MV RL index M n) (hM : jv_Ct (jv_g E) (jv_l E) d' M (.ref k0 :: As) σ E0 σ')
    (hn : As.length = n) (ho : jv_os[k0]? = some (.inl (ci, fc))) (hci : vwCl[ci]? = some (M.1.cls, Tb, Nb)) (hdd : d' < d) (hst : As.reverse ++ .ref k0 :: st = st0) (hroom : (st.map fun v => v.category).sum ≤ 8) (hU : U + 1 ≤ N)
    (ha : gl_Ca hh pc E0 hpc) (hi : i < nL) (hs : gl_Sto cc hpc i pc') (kk : gl_V gl_1 E (U + 1) pc' [] [] σ') : gl_V gl_1 E U pc L st0 σ := by
  subst hst
  obtain ⟨p, l, e, R, s, m, args, below, meth, c, cells, slots, Q, G⟩ := E
  obtain ⟨hx, hb, hml, hown, hts, hI, hXX, hR1, hR2, hR3, hR4⟩ := hc
  obtain ⟨⟨hm1, hm2, hm3, hm4⟩, hm5, hm6, hm7⟩ := hm
  obtain ⟨pre, x, suf, name, t1, t2, t3, t4, t5, t6, t7⟩ := ha
  subst hml
  intro j hj H locs ls hP hS hl
  have hcw : CallW R s args RL M.1.cls index M.1 M.2.1 M.2.2.1 M.2.2.2 (.code M.1 M.2.1 M.2.2.1 M.2.2.2 :: jv_WS) (jv_R d' 1 6) 1 6 n := by
    refine cwV (Ts := jv_WS) n hts (goodIn_app (fun w hw => ?_) (jv_goodc hm1)) rfl rfl rfl ⟨rfl, hm3⟩ ⟨?_, ?_⟩
    · simp only [List.mem_cons, List.not_mem_nil, or_false] at hw
      rcases hw with rfl | rfl | rfl | rfl
      · exact jv_good _ hm5
      · exact jv_good _ hm6
      · exact jv_good _ hm7
      · exact jv_good _ hm2
    · show d' + 12 + 1 ≤ R.frames
      omega
    · exact jv_loc hm4 hdd hR2
  have hpre : ∀ U : State, U.heap = H → s.WarmedH U.vm → va_Pc ((Value.ref k0 :: As).map (jv_cv G)) (jv_I G jv_os jv_strs σ) ((Value.ref k0 :: As).map (jv_cv G)).toArray U := by
    intro U hU hW
    obtain ⟨⟨a1, a2, a3, a4⟩, a5⟩ := gl_s1.1 s U σ H locs hI hP hS hU hW
    exact ⟨rfl, a1, a2, a5, a3, a4⟩
  refine gl_goX (B := gl_1) gl_s1 (σ' := σ') (τ := σ) (E0 := E0) hI (rest := st.map (jv_cv G)) (a := (Value.ref (G.2.1 k0) :: As.map (jv_cv G)).toArray)
    (vx_runV (cc := cc) (nL := c.maxLocals) (own := RL) (n := n) (As := As.map (jv_cv G)) (b := G.2.1 k0) (Ts := jv_WS) ⟨hx, hb, rfl, hown, hts⟩ hM hcw ⟨jv_blind, va_recv hXX.1 hP hci (jv_ws_at ho), hpre⟩ rfl (by rw [List.length_map]; exact hn) hl.1 ?_ (lv_room (rest := []) (m := m) (pc := pc) (ls := ls) (jv_sum hroom)) hd ⟨by omega, by omega⟩) hP hS (fun ce q H1 locs1 hP1 hS1 h1 h2 h3 => ?_)
  · show List.map (jv_cv G) (As.reverse ++ .ref k0 :: st) = _
    rw [List.map_append, List.map_reverse]; rfl
  · have kk := kk (j + 1) (by omega) H1 locs1
    rw [show cells + (j + 1) = cells + j + 1 by omega, show slots + 6 * (j + 1) = slots + 6 * j + 6 by omega] at kk
    refine vx_catch (own := RL) (name := name) (E := E0) (ce := ce) hown pre x suf (hT.trans t1) (fun z hz => ?_) t3 t4 (hts _ t5) (va_Nw.use rfl (hXX.2.1 _ t6 rfl)) h1 h2 h3 ?_
    · rcases t2 z hz with h | ⟨h, nm, g1, g2⟩
      · exact Or.inl h
      · exact Or.inr ⟨h, nm, hts _ g1, hXX.2.2.1 (E0, nm) g2⟩
    · rw [t7]
      rcases hs with ⟨k4, e1, e2, rfl⟩ | ⟨e2, rfl⟩
      · exact lv_astore_n hx hb e2 e1 hl hi rfl (fun ls' h' => kk ls' hP1 hS1 (gl_stored h'))
      · exact lv_astore hx hb e2 hl hi rfl (fun ls' h' => kk ls' hP1 hS1 (gl_stored h'))
/-- .. a static method that throws -/
theorem gl_callCS {E0 : String} {hpc i : Nat} {hh : List (Nat × Nat × Nat × Nat)} {σ σ' : jv_S} (hc : gl_C gl_1 E RL cc nL d N) (hT : gl_Tb E hh) (hd : decode cc pc = .ok (.invokestatic index, 3)) (hm : jv_MS RL index M n) (hM : jv_Ct (jv_g E) (jv_l E) d' M As σ E0 σ')
    (hn : As.length = n) (hdd : d' < d) (hst : As.reverse ++ st = st0) (hroom : (st.map fun v => v.category).sum ≤ 8) (hU : U + 1 ≤ N)
    (ha : gl_Ca hh pc E0 hpc) (hi : i < nL) (hs : gl_Sto cc hpc i pc') (kk : gl_V gl_1 E (U + 1) pc' [] [] σ') : gl_V gl_1 E U pc L st0 σ := by
  subst hst
  obtain ⟨p, l, e, R, s, m, args, below, meth, c, cells, slots, Q, G⟩ := E
  obtain ⟨hx, hb, hml, hown, hts, hI, hXX, hR1, hR2, hR3, hR4⟩ := hc
  obtain ⟨⟨hm1, hm2, hm3, hm4⟩, hm5, hm6⟩ := hm
  obtain ⟨pre, x, suf, name, t1, t2, t3, t4, t5, t6, t7⟩ := ha
  subst hml
  intro j hj H locs ls hP hS hl
  have hcw : CallB R s args RL index M.1 M.2.1 M.2.2.1 M.2.2.2 (.code M.1 M.2.1 M.2.2.1 M.2.2.2 :: jv_WS) (jv_R d' 1 6) 1 6 n ∧ (Cond.static M.1).before args s = true := by
    refine ⟨callB_of (Ts := jv_WS) n hts (jv_goodc hm1) rfl rfl rfl (hts _ hm2) (hts _ hm5) hm3 ⟨?_, ?_⟩, hts _ hm6⟩
    · show d' + 12 + 1 ≤ R.frames
      omega
    · exact jv_loc hm4 hdd hR2
  have hpre : ∀ U : State, U.heap = H → s.WarmedH U.vm → va_Pc (As.map (jv_cv G)) (jv_I G jv_os jv_strs σ) (As.map (jv_cv G)).toArray U := by
    intro U hU hW
    obtain ⟨⟨a1, a2, a3, a4⟩, a5⟩ := gl_s1.1 s U σ H locs hI hP hS hU hW
    exact ⟨rfl, a1, a2, a5, a3, a4⟩
  refine gl_goX (B := gl_1) gl_s1 (σ' := σ') (τ := σ) (E0 := E0) hI (rest := st.map (jv_cv G)) (a := (As.map (jv_cv G)).toArray)
    (vx_runS (cc := cc) (nL := c.maxLocals) (own := RL) (n := n) (As := As.map (jv_cv G)) (Ts := jv_WS) ⟨hx, hb, rfl, hown, hts⟩ hM hcw ⟨jv_blind, hpre⟩ rfl (by rw [List.length_map]; exact hn) hl.1 ?_ (lv_room (rest := []) (m := m) (pc := pc) (ls := ls) (jv_sum hroom)) hd ⟨by omega, by omega⟩) hP hS (fun ce q H1 locs1 hP1 hS1 h1 h2 h3 => ?_)
  · show List.map (jv_cv G) (As.reverse ++ st) = _
    rw [List.map_append, List.map_reverse]
  · have kk := kk (j + 1) (by omega) H1 locs1
    rw [show cells + (j + 1) = cells + j + 1 by omega, show slots + 6 * (j + 1) = slots + 6 * j + 6 by omega] at kk
    refine vx_catch (own := RL) (name := name) (E := E0) (ce := ce) hown pre x suf (hT.trans t1) (fun z hz => ?_) t3 t4 (hts _ t5) (va_Nw.use rfl (hXX.2.1 _ t6 rfl)) h1 h2 h3 ?_
    · rcases t2 z hz with h | ⟨h, nm, g1, g2⟩
      · exact Or.inl h
      · exact Or.inr ⟨h, nm, hts _ g1, hXX.2.2.1 (E0, nm) g2⟩
    · rw [t7]
      rcases hs with ⟨k4, e1, e2, rfl⟩ | ⟨e2, rfl⟩
      · exact lv_astore_n hx hb e2 e1 hl hi rfl (fun ls' h' => kk ls' hP1 hS1 (gl_stored h'))
      · exact lv_astore hx hb e2 hl hi rfl (fun ls' h' => kk ls' hP1 hS1 (gl_stored h'))
/-- an answer, wherever it is given -/
def gl_Rt (B : gl_B T) (E : jv_E) (N : Nat) (cc : ByteArray) (v : Int32) (τ : T) : Prop := ∀ (U pc : Nat) (L : List (Option Value)), U ≤ N → decode cc pc = .ok (.ireturn, 1) → gl_V B E U pc L [.int v] τ
theorem gl_of {G : jv_G} {l : Launch} {L0 : List (Option Value)} {v : Int32} {τ' : T} {w : Cond} (hw : w = gl_cd M ∨ ∃ hh, w = gl_cw M hh) (hy : plainName M.1.cls = true) (hlen : (jv_args As).length ≤ M.2.2.1) (hL : jv_args As ++ List.replicate (M.2.2.1 - (jv_args As).length) none = L0) (hok : jv_ok M.2.2.2 (some (.int v))) (hBX : ∀ G s, B.2.2 G s → jv_X G jv_strs s)
    (body : ∀ E : jv_E, jv_l E = l → jv_g E = G → gl_C B E M.1.cls M.2.1 M.2.2.1 d N → (∀ hh, w = gl_cw M hh → gl_Tb E hh) → gl_Rt B E N M.2.1 v τ' → gl_V B E 0 0 L0 [] τ) : gl_M0 B G l d M w As τ v τ' N := by
  have key : ∀ p e s m args below meth c s₁, BodyLoose p l M.1 (headSpec (w :: jv_WS) (jv_R d N (6 * N))) M.2.1 M.2.2.1 M.2.2.2 e s m args below meth c s₁ → c.maxLocals = M.2.2.1 → va_Pc (As.map (jv_cv G)) (gl_I B G τ) args s →
      W p l e (jv_R d N (6 * N)) s m args below meth c s.heap [] 0 0 (MQ below (gl_Q B G v τ') args s N (6 * N) (B.2.1 G)) (entryFrame m args M.2.2.1) := by
    intro p e s m args below meth c s₁ Bd hml hv
    obtain ⟨rfl, hI, hP⟩ := hv
    have hx := Bd.exec
    have hb := Bd.bytes
    have hr := Bd.returns
    have hts := atoms_spec (ws := w :: jv_WS) Bd.pre
    have hown : s.vm.findClass M.1.cls = some m.cls := findClass_of_methodNamed Bd.named
    have hlocks := Bd.notSynchronized
    have hcx : gl_C B (p, l, e, jv_R d N (6 * N), s, m, (As.map (jv_cv G)).toArray, below, meth, c, 0, 0, MQ below (gl_Q B G v τ') (As.map (jv_cv G)).toArray s N (6 * N) (B.2.1 G), G) M.1.cls M.2.1 M.2.2.1 d N :=
      ⟨hx, hb, hml, hown, fun w hw => hts w (List.mem_cons_of_mem _ hw), hI, hBX _ _ hI, Nat.le_refl _, Nat.le_refl _, by show 0 + N ≤ N; omega, by show 0 + 6 * N ≤ 6 * N; omega⟩
    have htb : ∀ hh, w = gl_cw M hh → gl_Tb (p, l, e, jv_R d N (6 * N), s, m, (As.map (jv_cv G)).toArray, below, meth, c, 0, 0, MQ below (gl_Q B G v τ') (As.map (jv_cv G)).toArray s N (6 * N) (B.2.1 G), G) hh := fun hh hw => vx_table (x := M.1) Bd (show (gl_cw M hh).before _ s = true from hw ▸ hts w List.mem_cons_self)
    have hrt : gl_Rt B (p, l, e, jv_R d N (6 * N), s, m, (As.map (jv_cv G)).toArray, below, meth, c, 0, 0, MQ below (gl_Q B G v τ') (As.map (jv_cv G)).toArray s N (6 * N) (B.2.1 G), G) N M.2.1 v τ' := by
      intro U pc L hU hd j hj H locs ls hP hS hl
      obtain ⟨ty, h1, h2⟩ := hok
      exact W.widen (by omega) (by omega) (W.zret hx hb (hr.trans h1) h2 (fun t ht hW => ⟨rfl, by rw [ht]; exact hP, hS.F ht⟩) hS.2.2 hd)
    have hv := body _ rfl rfl hcx htb hrt
    rw [lg_entry_eq]
    exact hv 0 (Nat.le_refl _) s.heap [] _ hP va_S.rf (by show lv_has _ c.maxLocals _; rw [hml]; exact jv_entry hlen hL)
  rcases hw with hw | ⟨hh, hw⟩
  · exact Met.ofW (cc := M.2.1) (maxL := M.2.2.1) (ret := M.2.2.2) hy (by rw [hw]; rfl) key
  · exact va_MetW (cc := M.2.1) (maxL := M.2.2.1) (ret := M.2.2.2) (hh := hh) hy (by rw [hw]; rfl) key
end GLCALLS2

