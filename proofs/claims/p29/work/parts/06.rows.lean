/-! ===== the objects of this system ===== -/
def jv_os : List jv_O := [
  .inl (7, [4, 11, 13, 17, 20, 27, 35, 0, 0]),
  .inl (3, [5, 6, 7, 8, 9, 10, 0, 0, 0, 0]), .inr (0, 24), .inr (0, 24), .inr (0, 24), .inr (0, 24), .inr (0, 24), .inr (0, 11),
  .inl (2, [4, 12]), .inr (0, 10),
  .inl (5, [4, 15, 14, 0, 0, 0, 0, 0, 1]), .inr (2, 16), .inl (2, [4, 16]), .inr (0, 10),
  .inl (4, [4, 18, 0]), .inl (2, [4, 19]), .inr (0, 10),
  .inl (6, [4, 21, 22, 23, 24, 25, 26, 0, 0]), .inr (0, 500), .inr (0, 500), .inr (0, 500), .inr (0, 500), .inr (0, 10), .inr (0, 24),
  .inl (1, [4, 28, 29, 30, 31, 32, 33, 34, 0, 0]), .inr (0, 34), .inr (0, 34), .inr (0, 34), .inr (0, 34), .inr (0, 34), .inr (0, 20), .inr (0, 20),
  .inl (0, [4, 36, 37, 0]), .inr (0, 24), .inr (0, 24)]
def jv_strs : List (Nat × String) := [(225, "a number is out of range"), (216, "no such node"), (218, "the nodes are the same"), (81, "the network has all its edges"), (223, "no such edge"), (116, "the second edge does not begin where the first one ends"), (227, "not started since the network was changed"), (158, "all paths have been drawn"), (229, "none has been drawn since the start"), (231, "it has no such edge"), (188, "no more walks are drawn from one start"), (191, "all walks have been drawn"), (234, "there is no such way")]
abbrev jv_E : Type := Program × Launch × Env × Room × State × MethodId × Array Value × List Frame × Method × Code × Nat × Nat × (State → Prop) × jv_G
def jv_l (E : jv_E) : Launch := E.2.1
def jv_g (E : jv_E) : jv_G := E.2.2.2.2.2.2.2.2.2.2.2.2.2
def jv_V (E : jv_E) (pc : Nat) (L : List (Option Value)) (st : List Value) (σ : jv_S) : Prop := match E with
  | (p, l, e, R, s, m, args, below, meth, c, cells, slots, Q, G) => ∀ (H : Heap) (locs : List Loc) (ls : Array Slot), va_P G.1 vwCl (jv_ws G jv_os σ) H → va_S (jv_A G) s.heap H locs → lv_has ls c.maxLocals (jv_lst G 0 L) →
      W p l e R s m args below meth c H locs cells slots Q (F0 m pc ls (st.map (jv_cv G)))
def jv_Cx (E : jv_E) (own : String) (cc : ByteArray) (nL d : Nat) : Prop := match E with
  | (p, _, _, R, s, m, args, _, meth, c, cells, slots, _, G) => p.tables.exec = Jvm.exec ∧ c.code = cc ∧ c.maxLocals = nL ∧ s.vm.findClass own = some m.cls ∧ (∀ w ∈ jv_WS, w.before args s = true) ∧ jv_X G jv_strs s ∧ jv_Z G s s.heap ∧ jv_D G jv_os ∧ G.2.2.2 ≤ s.heap.size ∧
      d + 12 ≤ R.frames ∧ 64 * d + 250 ≤ R.locals ∧ cells ≤ R.cells ∧ slots ≤ R.slots
section JVROWS
variable {E : jv_E} {own : String} {cc : ByteArray} {nL d pc pc' : Nat} {L L' : List (Option Value)} {st : List Value} {σ : jv_S}

theorem jv_iadd {x y : Int32} (hc : jv_Cx E own cc nL d) (hd : decode cc pc = .ok (.iadd, 1)) (hp : pc + 1 = pc') (k : jv_V E pc' L (.int (x + y) :: st) σ) : jv_V E pc L (.int y :: .int x :: st) σ := by
  subst hp
  obtain ⟨p, l, e, R, s, m, args, below, meth, c, cells, slots, Q, G⟩ := E
  obtain ⟨hx, hb, hml, hown, hts, hX, hZ, hD, hB, hR⟩ := hc
  subst hml
  intro H locs ls hP hS hl
  exact lv_iadd hx hb hd (k H locs ls hP hS hl)
theorem jv_isub {x y : Int32} (hc : jv_Cx E own cc nL d) (hd : decode cc pc = .ok (.isub, 1)) (hp : pc + 1 = pc') (k : jv_V E pc' L (.int (x - y) :: st) σ) : jv_V E pc L (.int y :: .int x :: st) σ := by
  subst hp
  obtain ⟨p, l, e, R, s, m, args, below, meth, c, cells, slots, Q, G⟩ := E
  obtain ⟨hx, hb, hml, hown, hts, hX, hZ, hD, hB, hR⟩ := hc
  subst hml
  intro H locs ls hP hS hl
  exact lv_isub hx hb hd (k H locs ls hP hS hl)
theorem jv_imul {x y : Int32} (hc : jv_Cx E own cc nL d) (hd : decode cc pc = .ok (.imul, 1)) (hp : pc + 1 = pc') (k : jv_V E pc' L (.int (x * y) :: st) σ) : jv_V E pc L (.int y :: .int x :: st) σ := by
  subst hp
  obtain ⟨p, l, e, R, s, m, args, below, meth, c, cells, slots, Q, G⟩ := E
  obtain ⟨hx, hb, hml, hown, hts, hX, hZ, hD, hB, hR⟩ := hc
  subst hml
  intro H locs ls hP hS hl
  exact lv_imul hx hb hd (k H locs ls hP hS hl)
theorem jv_iand {x y : Int32} (hc : jv_Cx E own cc nL d) (hd : decode cc pc = .ok (.iand, 1)) (hp : pc + 1 = pc') (k : jv_V E pc' L (.int (x &&& y) :: st) σ) : jv_V E pc L (.int y :: .int x :: st) σ := by
  subst hp
  obtain ⟨p, l, e, R, s, m, args, below, meth, c, cells, slots, Q, G⟩ := E
  obtain ⟨hx, hb, hml, hown, hts, hX, hZ, hD, hB, hR⟩ := hc
  subst hml
  intro H locs ls hP hS hl
  exact lv_iand hx hb hd (k H locs ls hP hS hl)
theorem jv_ior {x y : Int32} (hc : jv_Cx E own cc nL d) (hd : decode cc pc = .ok (.ior, 1)) (hp : pc + 1 = pc') (k : jv_V E pc' L (.int (x ||| y) :: st) σ) : jv_V E pc L (.int y :: .int x :: st) σ := by
  subst hp
  obtain ⟨p, l, e, R, s, m, args, below, meth, c, cells, slots, Q, G⟩ := E
  obtain ⟨hx, hb, hml, hown, hts, hX, hZ, hD, hB, hR⟩ := hc
  subst hml
  intro H locs ls hP hS hl
  exact lv_ior hx hb hd (k H locs ls hP hS hl)
theorem jv_ixor {x y : Int32} (hc : jv_Cx E own cc nL d) (hd : decode cc pc = .ok (.ixor, 1)) (hp : pc + 1 = pc') (k : jv_V E pc' L (.int (x ^^^ y) :: st) σ) : jv_V E pc L (.int y :: .int x :: st) σ := by
  subst hp
  obtain ⟨p, l, e, R, s, m, args, below, meth, c, cells, slots, Q, G⟩ := E
  obtain ⟨hx, hb, hml, hown, hts, hX, hZ, hD, hB, hR⟩ := hc
  subst hml
  intro H locs ls hP hS hl
  exact lv_ixor hx hb hd (k H locs ls hP hS hl)
theorem jv_ishl {x y : Int32} (hc : jv_Cx E own cc nL d) (hd : decode cc pc = .ok (.ishl, 1)) (hp : pc + 1 = pc') (k : jv_V E pc' L (.int (x <<< (y &&& 31)) :: st) σ) : jv_V E pc L (.int y :: .int x :: st) σ := by
  subst hp
  obtain ⟨p, l, e, R, s, m, args, below, meth, c, cells, slots, Q, G⟩ := E
  obtain ⟨hx, hb, hml, hown, hts, hX, hZ, hD, hB, hR⟩ := hc
  subst hml
  intro H locs ls hP hS hl
  exact lv_ishl hx hb hd (k H locs ls hP hS hl)
theorem jv_ishr {x y : Int32} (hc : jv_Cx E own cc nL d) (hd : decode cc pc = .ok (.ishr, 1)) (hp : pc + 1 = pc') (k : jv_V E pc' L (.int (x >>> (y &&& 31)) :: st) σ) : jv_V E pc L (.int y :: .int x :: st) σ := by
  subst hp
  obtain ⟨p, l, e, R, s, m, args, below, meth, c, cells, slots, Q, G⟩ := E
  obtain ⟨hx, hb, hml, hown, hts, hX, hZ, hD, hB, hR⟩ := hc
  subst hml
  intro H locs ls hP hS hl
  exact lv_ishr hx hb hd (k H locs ls hP hS hl)
theorem jv_irem {x y : Int32} (hc : jv_Cx E own cc nL d) (hd : decode cc pc = .ok (.irem, 1)) (hp : pc + 1 = pc') (hne : ¬ y = 0) (k : jv_V E pc' L (.int (x - x / y * y) :: st) σ) : jv_V E pc L (.int y :: .int x :: st) σ := by
  subst hp
  obtain ⟨p, l, e, R, s, m, args, below, meth, c, cells, slots, Q, G⟩ := E
  obtain ⟨hx, hb, hml, hown, hts, hX, hZ, hD, hB, hR⟩ := hc
  subst hml
  intro H locs ls hP hS hl
  exact lv_irem hx hb hd hne (k H locs ls hP hS hl)
theorem jv_iushr {x y : Int32} (hc : jv_Cx E own cc nL d) (hd : decode cc pc = .ok (.iushr, 1)) (hp : pc + 1 = pc') (k : jv_V E pc' L (.int ((x.toUInt32 >>> (y.toUInt32 &&& Int32.toUInt32 31)).toInt32) :: st) σ) : jv_V E pc L (.int y :: .int x :: st) σ := by
  subst hp
  obtain ⟨p, l, e, R, s, m, args, below, meth, c, cells, slots, Q, G⟩ := E
  obtain ⟨hx, hb, hml, hown, hts, hX, hZ, hD, hB, hR⟩ := hc
  subst hml
  intro H locs ls hP hS hl
  exact lv_iushr hx hb hd rfl (k H locs ls hP hS hl)
theorem jv_ineg {x : Int32} (hc : jv_Cx E own cc nL d) (hd : decode cc pc = .ok (.ineg, 1)) (hp : pc + 1 = pc') (k : jv_V E pc' L (.int (-x) :: st) σ) : jv_V E pc L (.int x :: st) σ := by
  subst hp
  obtain ⟨p, l, e, R, s, m, args, below, meth, c, cells, slots, Q, G⟩ := E
  obtain ⟨hx, hb, hml, hown, hts, hX, hZ, hD, hB, hR⟩ := hc
  subst hml
  intro H locs ls hP hS hl
  exact lv_ineg hx hb hd (k H locs ls hP hS hl)
theorem jv_lshl {x : Int64} {y : Int32} (hc : jv_Cx E own cc nL d) (hd : decode cc pc = .ok (.lshl, 1)) (hp : pc + 1 = pc') (k : jv_V E pc' L (.long (x <<< (y.toInt64 &&& 63)) :: st) σ) : jv_V E pc L (.int y :: .long x :: st) σ := by
  subst hp
  obtain ⟨p, l, e, R, s, m, args, below, meth, c, cells, slots, Q, G⟩ := E
  obtain ⟨hx, hb, hml, hown, hts, hX, hZ, hD, hB, hR⟩ := hc
  subst hml
  intro H locs ls hP hS hl
  exact lv_lshl hx hb hd rfl (k H locs ls hP hS hl)
theorem jv_lushr {x : Int64} {y : Int32} (hc : jv_Cx E own cc nL d) (hd : decode cc pc = .ok (.lushr, 1)) (hp : pc + 1 = pc') (k : jv_V E pc' L (.long ((x.toUInt64 >>> (y.toInt64.toUInt64 &&& Int64.toUInt64 63)).toInt64) :: st) σ) : jv_V E pc L (.int y :: .long x :: st) σ := by
  subst hp
  obtain ⟨p, l, e, R, s, m, args, below, meth, c, cells, slots, Q, G⟩ := E
  obtain ⟨hx, hb, hml, hown, hts, hX, hZ, hD, hB, hR⟩ := hc
  subst hml
  intro H locs ls hP hS hl
  exact lv_lushr hx hb hd rfl (k H locs ls hP hS hl)
theorem jv_ladd {x y : Int64} (hc : jv_Cx E own cc nL d) (hd : decode cc pc = .ok (.ladd, 1)) (hp : pc + 1 = pc') (k : jv_V E pc' L (.long (x + y) :: st) σ) : jv_V E pc L (.long y :: .long x :: st) σ := by
  subst hp
  obtain ⟨p, l, e, R, s, m, args, below, meth, c, cells, slots, Q, G⟩ := E
  obtain ⟨hx, hb, hml, hown, hts, hX, hZ, hD, hB, hR⟩ := hc
  subst hml
  intro H locs ls hP hS hl
  exact lv_ladd hx hb hd (k H locs ls hP hS hl)
theorem jv_land {x y : Int64} (hc : jv_Cx E own cc nL d) (hd : decode cc pc = .ok (.land, 1)) (hp : pc + 1 = pc') (k : jv_V E pc' L (.long (x &&& y) :: st) σ) : jv_V E pc L (.long y :: .long x :: st) σ := by
  subst hp
  obtain ⟨p, l, e, R, s, m, args, below, meth, c, cells, slots, Q, G⟩ := E
  obtain ⟨hx, hb, hml, hown, hts, hX, hZ, hD, hB, hR⟩ := hc
  subst hml
  intro H locs ls hP hS hl
  exact lv_land hx hb hd (k H locs ls hP hS hl)
theorem jv_lcmp {x y : Int64} (hc : jv_Cx E own cc nL d) (hd : decode cc pc = .ok (.lcmp, 1)) (hp : pc + 1 = pc') (k : jv_V E pc' L (.int (lg_cmp x y) :: st) σ) : jv_V E pc L (.long y :: .long x :: st) σ := by
  subst hp
  obtain ⟨p, l, e, R, s, m, args, below, meth, c, cells, slots, Q, G⟩ := E
  obtain ⟨hx, hb, hml, hown, hts, hX, hZ, hD, hB, hR⟩ := hc
  subst hml
  intro H locs ls hP hS hl
  exact W.lcmp hx hb hd (k H locs ls hP hS hl)
theorem jv_i2l {x : Int32} (hc : jv_Cx E own cc nL d) (hd : decode cc pc = .ok (.i2l, 1)) (hp : pc + 1 = pc') (k : jv_V E pc' L (.long x.toInt64 :: st) σ) : jv_V E pc L (.int x :: st) σ := by
  subst hp
  obtain ⟨p, l, e, R, s, m, args, below, meth, c, cells, slots, Q, G⟩ := E
  obtain ⟨hx, hb, hml, hown, hts, hX, hZ, hD, hB, hR⟩ := hc
  subst hml
  intro H locs ls hP hS hl
  exact lv_i2l hx hb hd rfl (k H locs ls hP hS hl)
theorem jv_l2i {x : Int64} (hc : jv_Cx E own cc nL d) (hd : decode cc pc = .ok (.l2i, 1)) (hp : pc + 1 = pc') (k : jv_V E pc' L (.int x.toInt32 :: st) σ) : jv_V E pc L (.long x :: st) σ := by
  subst hp
  obtain ⟨p, l, e, R, s, m, args, below, meth, c, cells, slots, Q, G⟩ := E
  obtain ⟨hx, hb, hml, hown, hts, hX, hZ, hD, hB, hR⟩ := hc
  subst hml
  intro H locs ls hP hS hl
  exact lv_l2i hx hb hd rfl (k H locs ls hP hS hl)
theorem jv_dup {v : Value} (hc : jv_Cx E own cc nL d) (hd : decode cc pc = .ok (.dup, 1)) (hp : pc + 1 = pc') (hv : v.category = 1) (k : jv_V E pc' L (v :: v :: st) σ) : jv_V E pc L (v :: st) σ := by
  subst hp
  obtain ⟨p, l, e, R, s, m, args, below, meth, c, cells, slots, Q, G⟩ := E
  obtain ⟨hx, hb, hml, hown, hts, hX, hZ, hD, hB, hR⟩ := hc
  subst hml
  intro H locs ls hP hS hl
  exact lv_dup hx hb hd (by rw [jv_cv_cat]; exact hv) (k H locs ls hP hS hl)
theorem jv_pop {v : Value} (hc : jv_Cx E own cc nL d) (hd : decode cc pc = .ok (.pop, 1)) (hp : pc + 1 = pc') (hv : v.category = 1) (k : jv_V E pc' L (st) σ) : jv_V E pc L (v :: st) σ := by
  subst hp
  obtain ⟨p, l, e, R, s, m, args, below, meth, c, cells, slots, Q, G⟩ := E
  obtain ⟨hx, hb, hml, hown, hts, hX, hZ, hD, hB, hR⟩ := hc
  subst hml
  intro H locs ls hP hS hl
  exact lv_pop hx hb hd (by rw [jv_cv_cat]; exact hv) (k H locs ls hP hS hl)
theorem jv_dup2 {v w : Value} (hc : jv_Cx E own cc nL d) (hd : decode cc pc = .ok (.dup2, 1)) (hp : pc + 1 = pc') (hv : v.category = 1) (hw : w.category = 1) (k : jv_V E pc' L (v :: w :: v :: w :: st) σ) : jv_V E pc L (v :: w :: st) σ := by
  subst hp
  obtain ⟨p, l, e, R, s, m, args, below, meth, c, cells, slots, Q, G⟩ := E
  obtain ⟨hx, hb, hml, hown, hts, hX, hZ, hD, hB, hR⟩ := hc
  subst hml
  intro H locs ls hP hS hl
  exact lv_dup2_11 hx hb hd (by rw [jv_cv_cat]; exact hv) (by rw [jv_cv_cat]; exact hw) (k H locs ls hP hS hl)
theorem jv_iconst {n : Int} {v : Int32} (hc : jv_Cx E own cc nL d) (hd : decode cc pc = .ok (.iconst n, 1)) (hp : pc + 1 = pc') (hv : Int32.ofInt n = v) (k : jv_V E pc' L (.int v :: st) σ) : jv_V E pc L (st) σ := by
  subst hp
  obtain ⟨p, l, e, R, s, m, args, below, meth, c, cells, slots, Q, G⟩ := E
  obtain ⟨hx, hb, hml, hown, hts, hX, hZ, hD, hB, hR⟩ := hc
  subst hml
  intro H locs ls hP hS hl
  exact lv_iconst hx hb hd hv (k H locs ls hP hS hl)
theorem jv_bipush {n : Int} {v : Int32} (hc : jv_Cx E own cc nL d) (hd : decode cc pc = .ok (.bipush n, 2)) (hp : pc + 2 = pc') (hv : (Int8.ofInt n).toInt32 = v) (k : jv_V E pc' L (.int v :: st) σ) : jv_V E pc L (st) σ := by
  subst hp
  obtain ⟨p, l, e, R, s, m, args, below, meth, c, cells, slots, Q, G⟩ := E
  obtain ⟨hx, hb, hml, hown, hts, hX, hZ, hD, hB, hR⟩ := hc
  subst hml
  intro H locs ls hP hS hl
  exact lv_bipush hx hb hd hv (k H locs ls hP hS hl)
theorem jv_sipush {n : Int} {v : Int32} (hc : jv_Cx E own cc nL d) (hd : decode cc pc = .ok (.sipush n, 3)) (hp : pc + 3 = pc') (hv : (Int16.ofInt n).toInt32 = v) (k : jv_V E pc' L (.int v :: st) σ) : jv_V E pc L (st) σ := by
  subst hp
  obtain ⟨p, l, e, R, s, m, args, below, meth, c, cells, slots, Q, G⟩ := E
  obtain ⟨hx, hb, hml, hown, hts, hX, hZ, hD, hB, hR⟩ := hc
  subst hml
  intro H locs ls hP hS hl
  exact lv_sipush hx hb hd hv (k H locs ls hP hS hl)
theorem jv_lconst {n : Fin 2} {v : Int64} (hc : jv_Cx E own cc nL d) (hd : decode cc pc = .ok (.lconst n, 1)) (hp : pc + 1 = pc') (hv : Int64.ofNat (n : Nat) = v) (k : jv_V E pc' L (.long v :: st) σ) : jv_V E pc L (st) σ := by
  subst hp
  obtain ⟨p, l, e, R, s, m, args, below, meth, c, cells, slots, Q, G⟩ := E
  obtain ⟨hx, hb, hml, hown, hts, hX, hZ, hD, hB, hR⟩ := hc
  subst hml
  intro H locs ls hP hS hl
  exact lv_lconst hx hb hd hv (k H locs ls hP hS hl)
theorem jv_ldc {index : Nat} {v : Int32} (hc : jv_Cx E own cc nL d) (hd : decode cc pc = .ok (.ldc index, 2)) (hp : pc + 2 = pc') (hw : Cond.constant own index v ∈ jv_WS) (k : jv_V E pc' L (.int v :: st) σ) : jv_V E pc L (st) σ := by
  subst hp
  obtain ⟨p, l, e, R, s, m, args, below, meth, c, cells, slots, Q, G⟩ := E
  obtain ⟨hx, hb, hml, hown, hts, hX, hZ, hD, hB, hR⟩ := hc
  subst hml
  intro H locs ls hP hS hl
  exact lv_ldc hx hb hown (hts _ hw) hd (k H locs ls hP hS hl)
theorem jv_ldc2 {index : Nat} {v : Int64} (hc : jv_Cx E own cc nL d) (hd : decode cc pc = .ok (.ldc2_w index, 3)) (hp : pc + 3 = pc') (hw : Cond.constantLong own index v ∈ jv_WS) (k : jv_V E pc' L (.long v :: st) σ) : jv_V E pc L (st) σ := by
  subst hp
  obtain ⟨p, l, e, R, s, m, args, below, meth, c, cells, slots, Q, G⟩ := E
  obtain ⟨hx, hb, hml, hown, hts, hX, hZ, hD, hB, hR⟩ := hc
  subst hml
  intro H locs ls hP hS hl
  exact lv_ldc2 hx hb hown (hts _ hw) hd (k H locs ls hP hS hl)
theorem jv_iload_n {k4 : Fin 4} {x : Int32} (hc : jv_Cx E own cc nL d) (hd : decode cc pc = .ok (.iload_n k4, 1)) (hp : pc + 1 = pc') (i : Nat) (hi : (k4 : Nat) = i) (hL : L[i]? = some (some (.int x))) (k : jv_V E pc' L (.int x :: st) σ) : jv_V E pc L (st) σ := by
  subst hp
  obtain ⟨p, l, e, R, s, m, args, below, meth, c, cells, slots, Q, G⟩ := E
  obtain ⟨hx, hb, hml, hown, hts, hX, hZ, hD, hB, hR⟩ := hc
  subst hml
  intro H locs ls hP hS hl
  exact lv_iload_n hx hb hd hi (jv_at hl hL) (k H locs ls hP hS hl)
theorem jv_iload {i : Nat} {x : Int32} (hc : jv_Cx E own cc nL d) (hd : decode cc pc = .ok (.iload i, 2)) (hp : pc + 2 = pc') (hL : L[i]? = some (some (.int x))) (k : jv_V E pc' L (.int x :: st) σ) : jv_V E pc L (st) σ := by
  subst hp
  obtain ⟨p, l, e, R, s, m, args, below, meth, c, cells, slots, Q, G⟩ := E
  obtain ⟨hx, hb, hml, hown, hts, hX, hZ, hD, hB, hR⟩ := hc
  subst hml
  intro H locs ls hP hS hl
  exact lv_iload hx hb hd (jv_at hl hL) (k H locs ls hP hS hl)
theorem jv_lload_n {k4 : Fin 4} {x : Int64} (hc : jv_Cx E own cc nL d) (hd : decode cc pc = .ok (.lload_n k4, 1)) (hp : pc + 1 = pc') (i : Nat) (hi : (k4 : Nat) = i) (hL : L[i]? = some (some (.long x))) (k : jv_V E pc' L (.long x :: st) σ) : jv_V E pc L (st) σ := by
  subst hp
  obtain ⟨p, l, e, R, s, m, args, below, meth, c, cells, slots, Q, G⟩ := E
  obtain ⟨hx, hb, hml, hown, hts, hX, hZ, hD, hB, hR⟩ := hc
  subst hml
  intro H locs ls hP hS hl
  exact lv_lload_n hx hb hd hi (jv_at hl hL) (k H locs ls hP hS hl)
theorem jv_lload {i : Nat} {x : Int64} (hc : jv_Cx E own cc nL d) (hd : decode cc pc = .ok (.lload i, 2)) (hp : pc + 2 = pc') (hL : L[i]? = some (some (.long x))) (k : jv_V E pc' L (.long x :: st) σ) : jv_V E pc L (st) σ := by
  subst hp
  obtain ⟨p, l, e, R, s, m, args, below, meth, c, cells, slots, Q, G⟩ := E
  obtain ⟨hx, hb, hml, hown, hts, hX, hZ, hD, hB, hR⟩ := hc
  subst hml
  intro H locs ls hP hS hl
  exact lv_lload hx hb hd (jv_at hl hL) (k H locs ls hP hS hl)
theorem jv_aload_n {k4 : Fin 4} {x : Nat} (hc : jv_Cx E own cc nL d) (hd : decode cc pc = .ok (.aload_n k4, 1)) (hp : pc + 1 = pc') (i : Nat) (hi : (k4 : Nat) = i) (hL : L[i]? = some (some (.ref x))) (k : jv_V E pc' L (.ref x :: st) σ) : jv_V E pc L (st) σ := by
  subst hp
  obtain ⟨p, l, e, R, s, m, args, below, meth, c, cells, slots, Q, G⟩ := E
  obtain ⟨hx, hb, hml, hown, hts, hX, hZ, hD, hB, hR⟩ := hc
  subst hml
  intro H locs ls hP hS hl
  exact lv_aload_n hx hb hd hi (jv_at hl hL) (k H locs ls hP hS hl)
theorem jv_aload {i : Nat} {x : Nat} (hc : jv_Cx E own cc nL d) (hd : decode cc pc = .ok (.aload i, 2)) (hp : pc + 2 = pc') (hL : L[i]? = some (some (.ref x))) (k : jv_V E pc' L (.ref x :: st) σ) : jv_V E pc L (st) σ := by
  subst hp
  obtain ⟨p, l, e, R, s, m, args, below, meth, c, cells, slots, Q, G⟩ := E
  obtain ⟨hx, hb, hml, hown, hts, hX, hZ, hD, hB, hR⟩ := hc
  subst hml
  intro H locs ls hP hS hl
  exact lv_aload hx hb hd (jv_at hl hL) (k H locs ls hP hS hl)
theorem jv_istore_n {k4 : Fin 4} {x : Int32} (hc : jv_Cx E own cc nL d) (hd : decode cc pc = .ok (.istore_n k4, 1)) (hp : pc + 1 = pc') (i : Nat) (hi : (k4 : Nat) = i) (hn : i < nL) (hk : jv_nl L i = true) (hL : L.set i (some (.int x)) = L') (k : jv_V E pc' L' (st) σ) : jv_V E pc L (.int x :: st) σ := by
  subst hp
  obtain ⟨p, l, e, R, s, m, args, below, meth, c, cells, slots, Q, G⟩ := E
  obtain ⟨hx, hb, hml, hown, hts, hX, hZ, hD, hB, hR⟩ := hc
  subst hml
  intro H locs ls hP hS hl
  subst hL; exact lv_istore_n hx hb hd hi hl hn rfl (fun ls h => k H locs ls hP hS (jv_set1 (v := .int x) rfl hk h))
theorem jv_istore {i : Nat} {x : Int32} (hc : jv_Cx E own cc nL d) (hd : decode cc pc = .ok (.istore i, 2)) (hp : pc + 2 = pc') (hn : i < nL) (hk : jv_nl L i = true) (hL : L.set i (some (.int x)) = L') (k : jv_V E pc' L' (st) σ) : jv_V E pc L (.int x :: st) σ := by
  subst hp
  obtain ⟨p, l, e, R, s, m, args, below, meth, c, cells, slots, Q, G⟩ := E
  obtain ⟨hx, hb, hml, hown, hts, hX, hZ, hD, hB, hR⟩ := hc
  subst hml
  intro H locs ls hP hS hl
  subst hL; exact lv_istore hx hb hd hl hn rfl (fun ls h => k H locs ls hP hS (jv_set1 (v := .int x) rfl hk h))
theorem jv_astore_n {k4 : Fin 4} {x : Nat} (hc : jv_Cx E own cc nL d) (hd : decode cc pc = .ok (.astore_n k4, 1)) (hp : pc + 1 = pc') (i : Nat) (hi : (k4 : Nat) = i) (hn : i < nL) (hk : jv_nl L i = true) (hL : L.set i (some (.ref x)) = L') (k : jv_V E pc' L' (st) σ) : jv_V E pc L (.ref x :: st) σ := by
  subst hp
  obtain ⟨p, l, e, R, s, m, args, below, meth, c, cells, slots, Q, G⟩ := E
  obtain ⟨hx, hb, hml, hown, hts, hX, hZ, hD, hB, hR⟩ := hc
  subst hml
  intro H locs ls hP hS hl
  subst hL; exact lv_astore_n hx hb hd hi hl hn rfl (fun ls h => k H locs ls hP hS (jv_set1 (v := .ref x) rfl hk h))
theorem jv_astore {i : Nat} {x : Nat} (hc : jv_Cx E own cc nL d) (hd : decode cc pc = .ok (.astore i, 2)) (hp : pc + 2 = pc') (hn : i < nL) (hk : jv_nl L i = true) (hL : L.set i (some (.ref x)) = L') (k : jv_V E pc' L' (st) σ) : jv_V E pc L (.ref x :: st) σ := by
  subst hp
  obtain ⟨p, l, e, R, s, m, args, below, meth, c, cells, slots, Q, G⟩ := E
  obtain ⟨hx, hb, hml, hown, hts, hX, hZ, hD, hB, hR⟩ := hc
  subst hml
  intro H locs ls hP hS hl
  subst hL; exact lv_astore hx hb hd hl hn rfl (fun ls h => k H locs ls hP hS (jv_set1 (v := .ref x) rfl hk h))
theorem jv_lstore {i : Nat} {x : Int64} (hc : jv_Cx E own cc nL d) (hd : decode cc pc = .ok (.lstore i, 2)) (hp : pc + 2 = pc') (hn : i + 1 < nL) (hk : jv_nl L i = true) (hL : (L.set i (some (.long x))).set (i + 1) none = L') (k : jv_V E pc' L' (st) σ) : jv_V E pc L (.long x :: st) σ := by
  subst hp
  obtain ⟨p, l, e, R, s, m, args, below, meth, c, cells, slots, Q, G⟩ := E
  obtain ⟨hx, hb, hml, hown, hts, hX, hZ, hD, hB, hR⟩ := hc
  subst hml
  intro H locs ls hP hS hl
  subst hL; exact lv_lstore hx hb hd hl hn rfl (fun ls h => k H locs ls hP hS (jv_set2 hk h))
theorem jv_iinc {i : Nat} {n : Int} {x v : Int32} (hc : jv_Cx E own cc nL d) (hd : decode cc pc = .ok (.iinc i n, 3)) (hp : pc + 3 = pc') (hi : L[i]? = some (some (.int x))) (hv : x + Int32.ofInt n = v) (hn : i < nL) (hk : jv_nl L i = true) (hL : L.set i (some (.int v)) = L') (k : jv_V E pc' L' (st) σ) : jv_V E pc L (st) σ := by
  subst hp
  obtain ⟨p, l, e, R, s, m, args, below, meth, c, cells, slots, Q, G⟩ := E
  obtain ⟨hx, hb, hml, hown, hts, hX, hZ, hD, hB, hR⟩ := hc
  subst hml
  intro H locs ls hP hS hl
  subst hL
  obtain ⟨q, hq⟩ := List.getElem?_of_mem ((jv_lst_mem (G := G) L 0 (i, .int x)).mpr ⟨i, .int x, by rw [Nat.zero_add]; rfl, hi⟩)
  exact lv_iinc hx hb hd hl hq hv hn rfl (fun ls h => k H locs ls hP hS (jv_set1 (v := .int v) rfl hk h))
theorem jv_icmp_eq {x y : Int32} {off : Int} {tgt : Nat} (hc : jv_Cx E own cc nL d) (hd : decode cc pc = .ok (.if_icmp .eq off, 3)) (ht : (pc : Int) + off = (tgt : Int)) (hp : pc + 3 = pc') (kt : x = y → jv_V E tgt L st σ) (kf : ¬ x = y → jv_V E pc' L st σ) : jv_V E pc L (.int y :: .int x :: st) σ := by
  subst hp
  obtain ⟨p, l, e, R, s, m, args, below, meth, c, cells, slots, Q, G⟩ := E
  obtain ⟨hx, hb, hml, hown, hts, hX, hZ, hD, hB, hR⟩ := hc
  subst hml
  intro H locs ls hP hS hl
  exact lv_icmp_eq hx hb hd ht (fun h => kt h H locs ls hP hS hl) (fun h => kf h H locs ls hP hS hl)
theorem jv_if_eq {x : Int32} {off : Int} {tgt : Nat} (hc : jv_Cx E own cc nL d) (hd : decode cc pc = .ok (.ifCond .eq off, 3)) (ht : (pc : Int) + off = (tgt : Int)) (hp : pc + 3 = pc') (kt : x = 0 → jv_V E tgt L st σ) (kf : ¬ x = 0 → jv_V E pc' L st σ) : jv_V E pc L (.int x :: st) σ := by
  subst hp
  obtain ⟨p, l, e, R, s, m, args, below, meth, c, cells, slots, Q, G⟩ := E
  obtain ⟨hx, hb, hml, hown, hts, hX, hZ, hD, hB, hR⟩ := hc
  subst hml
  intro H locs ls hP hS hl
  exact lv_if_eq hx hb hd ht (fun h => kt h H locs ls hP hS hl) (fun h => kf h H locs ls hP hS hl)
theorem jv_icmp_ne {x y : Int32} {off : Int} {tgt : Nat} (hc : jv_Cx E own cc nL d) (hd : decode cc pc = .ok (.if_icmp .ne off, 3)) (ht : (pc : Int) + off = (tgt : Int)) (hp : pc + 3 = pc') (kt : ¬ x = y → jv_V E tgt L st σ) (kf : x = y → jv_V E pc' L st σ) : jv_V E pc L (.int y :: .int x :: st) σ := by
  subst hp
  obtain ⟨p, l, e, R, s, m, args, below, meth, c, cells, slots, Q, G⟩ := E
  obtain ⟨hx, hb, hml, hown, hts, hX, hZ, hD, hB, hR⟩ := hc
  subst hml
  intro H locs ls hP hS hl
  exact lv_icmp_ne hx hb hd ht (fun h => kt h H locs ls hP hS hl) (fun h => kf h H locs ls hP hS hl)
theorem jv_if_ne {x : Int32} {off : Int} {tgt : Nat} (hc : jv_Cx E own cc nL d) (hd : decode cc pc = .ok (.ifCond .ne off, 3)) (ht : (pc : Int) + off = (tgt : Int)) (hp : pc + 3 = pc') (kt : ¬ x = 0 → jv_V E tgt L st σ) (kf : x = 0 → jv_V E pc' L st σ) : jv_V E pc L (.int x :: st) σ := by
  subst hp
  obtain ⟨p, l, e, R, s, m, args, below, meth, c, cells, slots, Q, G⟩ := E
  obtain ⟨hx, hb, hml, hown, hts, hX, hZ, hD, hB, hR⟩ := hc
  subst hml
  intro H locs ls hP hS hl
  exact lv_if_ne hx hb hd ht (fun h => kt h H locs ls hP hS hl) (fun h => kf h H locs ls hP hS hl)
theorem jv_icmp_lt {x y : Int32} {off : Int} {tgt : Nat} (hc : jv_Cx E own cc nL d) (hd : decode cc pc = .ok (.if_icmp .lt off, 3)) (ht : (pc : Int) + off = (tgt : Int)) (hp : pc + 3 = pc') (kt : x < y → jv_V E tgt L st σ) (kf : ¬ x < y → jv_V E pc' L st σ) : jv_V E pc L (.int y :: .int x :: st) σ := by
  subst hp
  obtain ⟨p, l, e, R, s, m, args, below, meth, c, cells, slots, Q, G⟩ := E
  obtain ⟨hx, hb, hml, hown, hts, hX, hZ, hD, hB, hR⟩ := hc
  subst hml
  intro H locs ls hP hS hl
  exact lv_icmp_lt hx hb hd ht (fun h => kt h H locs ls hP hS hl) (fun h => kf h H locs ls hP hS hl)
theorem jv_if_lt {x : Int32} {off : Int} {tgt : Nat} (hc : jv_Cx E own cc nL d) (hd : decode cc pc = .ok (.ifCond .lt off, 3)) (ht : (pc : Int) + off = (tgt : Int)) (hp : pc + 3 = pc') (kt : x < 0 → jv_V E tgt L st σ) (kf : ¬ x < 0 → jv_V E pc' L st σ) : jv_V E pc L (.int x :: st) σ := by
  subst hp
  obtain ⟨p, l, e, R, s, m, args, below, meth, c, cells, slots, Q, G⟩ := E
  obtain ⟨hx, hb, hml, hown, hts, hX, hZ, hD, hB, hR⟩ := hc
  subst hml
  intro H locs ls hP hS hl
  exact lv_if_lt hx hb hd ht (fun h => kt h H locs ls hP hS hl) (fun h => kf h H locs ls hP hS hl)
theorem jv_icmp_ge {x y : Int32} {off : Int} {tgt : Nat} (hc : jv_Cx E own cc nL d) (hd : decode cc pc = .ok (.if_icmp .ge off, 3)) (ht : (pc : Int) + off = (tgt : Int)) (hp : pc + 3 = pc') (kt : y ≤ x → jv_V E tgt L st σ) (kf : ¬ y ≤ x → jv_V E pc' L st σ) : jv_V E pc L (.int y :: .int x :: st) σ := by
  subst hp
  obtain ⟨p, l, e, R, s, m, args, below, meth, c, cells, slots, Q, G⟩ := E
  obtain ⟨hx, hb, hml, hown, hts, hX, hZ, hD, hB, hR⟩ := hc
  subst hml
  intro H locs ls hP hS hl
  exact lv_icmp_ge hx hb hd ht (fun h => kt h H locs ls hP hS hl) (fun h => kf h H locs ls hP hS hl)
theorem jv_if_ge {x : Int32} {off : Int} {tgt : Nat} (hc : jv_Cx E own cc nL d) (hd : decode cc pc = .ok (.ifCond .ge off, 3)) (ht : (pc : Int) + off = (tgt : Int)) (hp : pc + 3 = pc') (kt : 0 ≤ x → jv_V E tgt L st σ) (kf : ¬ 0 ≤ x → jv_V E pc' L st σ) : jv_V E pc L (.int x :: st) σ := by
  subst hp
  obtain ⟨p, l, e, R, s, m, args, below, meth, c, cells, slots, Q, G⟩ := E
  obtain ⟨hx, hb, hml, hown, hts, hX, hZ, hD, hB, hR⟩ := hc
  subst hml
  intro H locs ls hP hS hl
  exact lv_if_ge hx hb hd ht (fun h => kt h H locs ls hP hS hl) (fun h => kf h H locs ls hP hS hl)
theorem jv_icmp_gt {x y : Int32} {off : Int} {tgt : Nat} (hc : jv_Cx E own cc nL d) (hd : decode cc pc = .ok (.if_icmp .gt off, 3)) (ht : (pc : Int) + off = (tgt : Int)) (hp : pc + 3 = pc') (kt : y < x → jv_V E tgt L st σ) (kf : ¬ y < x → jv_V E pc' L st σ) : jv_V E pc L (.int y :: .int x :: st) σ := by
  subst hp
  obtain ⟨p, l, e, R, s, m, args, below, meth, c, cells, slots, Q, G⟩ := E
  obtain ⟨hx, hb, hml, hown, hts, hX, hZ, hD, hB, hR⟩ := hc
  subst hml
  intro H locs ls hP hS hl
  exact lv_icmp_gt hx hb hd ht (fun h => kt h H locs ls hP hS hl) (fun h => kf h H locs ls hP hS hl)
theorem jv_if_gt {x : Int32} {off : Int} {tgt : Nat} (hc : jv_Cx E own cc nL d) (hd : decode cc pc = .ok (.ifCond .gt off, 3)) (ht : (pc : Int) + off = (tgt : Int)) (hp : pc + 3 = pc') (kt : 0 < x → jv_V E tgt L st σ) (kf : ¬ 0 < x → jv_V E pc' L st σ) : jv_V E pc L (.int x :: st) σ := by
  subst hp
  obtain ⟨p, l, e, R, s, m, args, below, meth, c, cells, slots, Q, G⟩ := E
  obtain ⟨hx, hb, hml, hown, hts, hX, hZ, hD, hB, hR⟩ := hc
  subst hml
  intro H locs ls hP hS hl
  exact lv_if_gt hx hb hd ht (fun h => kt h H locs ls hP hS hl) (fun h => kf h H locs ls hP hS hl)
theorem jv_icmp_le {x y : Int32} {off : Int} {tgt : Nat} (hc : jv_Cx E own cc nL d) (hd : decode cc pc = .ok (.if_icmp .le off, 3)) (ht : (pc : Int) + off = (tgt : Int)) (hp : pc + 3 = pc') (kt : x ≤ y → jv_V E tgt L st σ) (kf : ¬ x ≤ y → jv_V E pc' L st σ) : jv_V E pc L (.int y :: .int x :: st) σ := by
  subst hp
  obtain ⟨p, l, e, R, s, m, args, below, meth, c, cells, slots, Q, G⟩ := E
  obtain ⟨hx, hb, hml, hown, hts, hX, hZ, hD, hB, hR⟩ := hc
  subst hml
  intro H locs ls hP hS hl
  exact lv_icmp_le hx hb hd ht (fun h => kt h H locs ls hP hS hl) (fun h => kf h H locs ls hP hS hl)
theorem jv_if_le {x : Int32} {off : Int} {tgt : Nat} (hc : jv_Cx E own cc nL d) (hd : decode cc pc = .ok (.ifCond .le off, 3)) (ht : (pc : Int) + off = (tgt : Int)) (hp : pc + 3 = pc') (kt : x ≤ 0 → jv_V E tgt L st σ) (kf : ¬ x ≤ 0 → jv_V E pc' L st σ) : jv_V E pc L (.int x :: st) σ := by
  subst hp
  obtain ⟨p, l, e, R, s, m, args, below, meth, c, cells, slots, Q, G⟩ := E
  obtain ⟨hx, hb, hml, hown, hts, hX, hZ, hD, hB, hR⟩ := hc
  subst hml
  intro H locs ls hP hS hl
  exact lv_if_le hx hb hd ht (fun h => kt h H locs ls hP hS hl) (fun h => kf h H locs ls hP hS hl)
theorem jv_goto {off : Int} {tgt : Nat} (hc : jv_Cx E own cc nL d) (hd : decode cc pc = .ok (.goto off, 3)) (ht : (pc : Int) + off = (tgt : Int)) (k : jv_V E tgt L st σ) : jv_V E pc L st σ := by
  obtain ⟨p, l, e, R, s, m, args, below, meth, c, cells, slots, Q, G⟩ := E
  obtain ⟨hx, hb, hml, hown, hts, hX, hZ, hD, hB, hR⟩ := hc
  subst hml
  intro H locs ls hP hS hl
  exact lv_goto hx hb hd ht (k H locs ls hP hS hl)
/-- a field that the code at own may read by its entry: class ci, slot j -/
def jv_F (own : String) (index ci j : Nat) : Prop := ∃ (C : String) (T : u_T) (N : Nat), vwCl[ci]? = some (C, T, N) ∧ j < N ∧ (∀ w ∈ u_ws C T N, w ∈ jv_WS) ∧ Cond.fieldLink own index (T j).1 (T j).2.1 (T j).2.2.1 ∈ jv_WS
/-- .. and write -/
def jv_Fp (own : String) (index ci j : Nat) (ty : FieldType) : Prop := ∃ (C : String) (T : u_T) (N : Nat) (ty0 : Nat → FieldType), vwCl[ci]? = some (C, T, N) ∧ j < N ∧ (∀ w ∈ u_ws C T N, w ∈ jv_WS) ∧ Cond.fieldLink own index (T j).1 (T j).2.1 (T j).2.2.1 ∈ jv_WS ∧
  (∀ k, k < N → parseFieldDescriptor (T k).2.2.1 = some (ty0 k)) ∧ (∀ a, a < N → ∀ b, b < N → a ≠ b → (T a).2.1 ≠ (T b).2.1) ∧ (T j).2.2.2 = false ∧ parseFieldDescriptor (T j).2.2.1 = some ty
theorem jv_mapIdx {G : jv_G} {σ : jv_S} {k j c : Nat} {fc : List Nat} (h : fc[j]? = some c) : (fc.mapIdx (fun j c => jv_cv G (jv_fa σ k j c)))[j]? = some (jv_cv G (jv_fa σ k j c)) := by
  simp [List.getElem?_mapIdx, h]

theorem jv_get {index ci j k0 c : Nat} {fc : List Nat} {v : Value} (hc : jv_Cx E own cc nL d) (hd : decode cc pc = .ok (.getfield index, 3)) (hp : pc + 3 = pc') (hf : jv_F own index ci j) (ho : jv_os[k0]? = some (.inl (ci, fc))) (hj : fc[j]? = some c) (hv : jv_fa σ k0 j c = v) (k : jv_V E pc' L (v :: st) σ) : jv_V E pc L (.ref k0 :: st) σ := by
  subst hp
  obtain ⟨p, l, e, R, s, m, args, below, meth, c, cells, slots, Q, G⟩ := E
  obtain ⟨hx, hb, hml, hown, hts, hX, hZ, hD, hB, hR⟩ := hc
  subst hml
  intro H locs ls hP hS hl
  obtain ⟨C, T, N, h1, h2, h3, h4⟩ := hf
  subst hv
  exact va_get (D := G.1) (cl := vwCl) (tys := jv_tys G) (ci := ci) (C := C) (T := T) (N := N) hx hb hts h3 hown hX.1 hP k0 (jv_ws_at ho) h1 j h2 (hts _ h4) (fun _ h9 => h9) (jv_mapIdx hj) hd (k H locs ls hP hS hl)
theorem jv_fs_set {G : jv_G} {σ τ : jv_S} {k j : Nat} {fc : List Nat} {c : Nat} (hj : fc[j]? = some c) (h : ∀ j' c', j' ≠ j → jv_fa τ k j' c' = jv_fa σ k j' c') {v : Value} (hv : jv_cv G (jv_fa τ k j c) = v) :
    fc.mapIdx (fun j c => jv_cv G (jv_fa τ k j c)) = (fc.mapIdx (fun j c => jv_cv G (jv_fa σ k j c))).set j v := by
  apply List.ext_getElem?
  intro i
  rw [List.getElem?_set, List.getElem?_mapIdx, List.getElem?_mapIdx]
  by_cases e : j = i
  · subst e
    have hl : j < fc.length := (List.getElem?_eq_some_iff.mp hj).1
    rw [if_pos rfl, if_pos (by simpa using hl), hj]
    simp [hv]
  · rw [if_neg e]
    cases hq : fc[i]? with
    | none => rfl
    | some c' => simp [h i c' (Ne.symm e)]
theorem jv_u_same {α : Type} {f : Nat → α} {k : Nat} {r : α} : jv_u f k r k = r := if_pos rfl
theorem jv_u_ne {α : Type} {f : Nat → α} {k k' : Nat} {r : α} (h : k' ≠ k) : jv_u f k r k' = f k' := if_neg h
theorem jv_set_fi {G : jv_G} {σ : jv_S} {k ci j : Nat} {fc : List Nat} {x : Int32} (ho : jv_os[k]? = some (.inl (ci, fc))) (hj : fc[j]? = some 0) :
    (jv_ws G jv_os σ).set k (G.2.1 k, .inr (ci, (fc.mapIdx (fun j c => jv_cv G (jv_fa σ k j c))).set j (.int x))) = jv_ws G jv_os (jv_si σ k j x) := by
  refine jv_ws_set ho ?_ (fun k' h => jv_u_ne h) (fun k' h => rfl)
  have e := jv_fs_set (G := G) (σ := σ) (τ := jv_si σ k j x) (k := k) hj (fun j2 c2 h => by
    match c2 with
    | 0 => simp [jv_fa, jv_si, jv_u, upd, h]
    | 1 => rfl
    | 2 => rfl
    | r + 3 => rfl) (v := .int x) (by simp [jv_fa, jv_si, jv_u, upd, jv_cv])
  simp only [jv_en, e]
theorem jv_set_fl {G : jv_G} {σ : jv_S} {k ci j : Nat} {fc : List Nat} {x : Int64} (ho : jv_os[k]? = some (.inl (ci, fc))) (hj : fc[j]? = some 1) :
    (jv_ws G jv_os σ).set k (G.2.1 k, .inr (ci, (fc.mapIdx (fun j c => jv_cv G (jv_fa σ k j c))).set j (.long x))) = jv_ws G jv_os (jv_sl σ k j x) := by
  refine jv_ws_set ho ?_ (fun k' h => rfl) (fun k' h => jv_u_ne h)
  have e := jv_fs_set (G := G) (σ := σ) (τ := jv_sl σ k j x) (k := k) hj (fun j2 c2 h => by
    match c2 with
    | 0 => rfl
    | 1 => simp [jv_fa, jv_sl, jv_u, vp_updL, h]
    | 2 => rfl
    | r + 3 => rfl) (v := .long x) (by simp [jv_fa, jv_sl, jv_u, vp_updL, jv_cv])
  simp only [jv_en, e]

theorem jv_puti {index ci j k0 : Nat} {fc : List Nat} {ty : FieldType} {x : Int32} (hc : jv_Cx E own cc nL d) (hd : decode cc pc = .ok (.putfield index, 3)) (hp : pc + 3 = pc') (hf : jv_Fp own index ci j ty) (ho : jv_os[k0]? = some (.inl (ci, fc))) (hj : fc[j]? = some 0) (hn : narrow ty (.int x) = .int x) (hfit : fits ty (.int x) = true) (k : jv_V E pc' L (st) (jv_si σ k0 j x)) : jv_V E pc L (.int x :: .ref k0 :: st) σ := by
  subst hp
  obtain ⟨p, l, e, R, s, m, args, below, meth, c, cells, slots, Q, G⟩ := E
  obtain ⟨hx, hb, hml, hown, hts, hX, hZ, hD, hB, hR⟩ := hc
  subst hml
  intro H locs ls hP hS hl
  obtain ⟨C, T, N, ty0, h1, h2, h3, h4, h5, h6, h7, h8⟩ := hf
  refine va_put (D := G.1) (cl := vwCl) (tys := jv_tys G) (ci := ci) (v := .int x) (ty := ty) (C := C) (T := T) (N := N) hx hb hts h3 ty0 h5 h6 hown hX.1 hP (hD.va (σ := σ)) hS k0 (jv_ws_at ho) h1 j h2 (hts _ h4) (fun _ h9 => h9) h7 h8 hn hfit (by simpa using (List.getElem?_eq_some_iff.mp hj).1) hd (fun H1 locs1 hP1 _ hS1 => ?_)
  rw [jv_set_fi ho hj] at hP1
  exact k H1 locs1 ls hP1 hS1 hl
theorem jv_putl {index ci j k0 : Nat} {fc : List Nat} {ty : FieldType} {x : Int64} (hc : jv_Cx E own cc nL d) (hd : decode cc pc = .ok (.putfield index, 3)) (hp : pc + 3 = pc') (hf : jv_Fp own index ci j ty) (ho : jv_os[k0]? = some (.inl (ci, fc))) (hj : fc[j]? = some 1) (hn : narrow ty (.long x) = .long x) (hfit : fits ty (.long x) = true) (k : jv_V E pc' L (st) (jv_sl σ k0 j x)) : jv_V E pc L (.long x :: .ref k0 :: st) σ := by
  subst hp
  obtain ⟨p, l, e, R, s, m, args, below, meth, c, cells, slots, Q, G⟩ := E
  obtain ⟨hx, hb, hml, hown, hts, hX, hZ, hD, hB, hR⟩ := hc
  subst hml
  intro H locs ls hP hS hl
  obtain ⟨C, T, N, ty0, h1, h2, h3, h4, h5, h6, h7, h8⟩ := hf
  refine va_put (D := G.1) (cl := vwCl) (tys := jv_tys G) (ci := ci) (v := .long x) (ty := ty) (C := C) (T := T) (N := N) hx hb hts h3 ty0 h5 h6 hown hX.1 hP (hD.va (σ := σ)) hS k0 (jv_ws_at ho) h1 j h2 (hts _ h4) (fun _ h9 => h9) h7 h8 hn hfit (by simpa using (List.getElem?_eq_some_iff.mp hj).1) hd (fun H1 locs1 hP1 _ hS1 => ?_)
  rw [jv_set_fl ho hj] at hP1
  exact k H1 locs1 ls hP1 hS1 hl
theorem jv_iald {k0 n : Nat} {i : Int32} (hc : jv_Cx E own cc nL d) (hd : decode cc pc = .ok (.iaload, 1)) (hp : pc + 1 = pc') (ho : jv_os[k0]? = some (.inr (0, n))) (hin : vp_in i n) (k : jv_V E pc' L (.int (σ.1 k0 i.toNatClampNeg) :: st) σ) : jv_V E pc L (.int i :: .ref k0 :: st) σ := by
  subst hp
  obtain ⟨p, l, e, R, s, m, args, below, meth, c, cells, slots, Q, G⟩ := E
  obtain ⟨hx, hb, hml, hown, hts, hX, hZ, hD, hB, hR⟩ := hc
  subst hml
  intro H locs ls hP hS hl
  exact va_iald (D := G.1) (cl := vwCl) (tys := jv_tys G) hx hb hX.1 hP k0 0 (jv_ws_at ho) rfl hin hd (k H locs ls hP hS hl)
theorem jv_lald {k0 n : Nat} {i : Int32} (hc : jv_Cx E own cc nL d) (hd : decode cc pc = .ok (.laload, 1)) (hp : pc + 1 = pc') (ho : jv_os[k0]? = some (.inr (2, n))) (hin : vp_in i n) (k : jv_V E pc' L (.long (σ.2 k0 i.toNatClampNeg) :: st) σ) : jv_V E pc L (.int i :: .ref k0 :: st) σ := by
  subst hp
  obtain ⟨p, l, e, R, s, m, args, below, meth, c, cells, slots, Q, G⟩ := E
  obtain ⟨hx, hb, hml, hown, hts, hX, hZ, hD, hB, hR⟩ := hc
  subst hml
  intro H locs ls hP hS hl
  exact va_lald (D := G.1) (cl := vwCl) (tys := jv_tys G) hx hb hX.1 hP k0 2 (jv_ws_at ho) rfl hin hd (k H locs ls hP hS hl)
theorem jv_set_a0 {G : jv_G} {σ : jv_S} {k n : Nat} {j : Nat} {x : Int32} (ho : jv_os[k]? = some (.inr (0, n))) : (jv_ws G jv_os σ).set k (G.2.1 k, .inl (G.2.2.1.1, n, .inl (upd (σ.1 k) j x))) = jv_ws G jv_os (jv_si σ k j x) :=
  jv_ws_set ho (by simp [jv_en, jv_si, jv_u]) (fun k' h => jv_u_ne h) (fun k' h => rfl)
theorem jv_set_a1 {G : jv_G} {σ : jv_S} {k n : Nat} {j : Nat} {x : Int32} (ho : jv_os[k]? = some (.inr (1, n))) : (jv_ws G jv_os σ).set k (G.2.1 k, .inl (G.2.2.1.2.1, n, .inl (upd (σ.1 k) j x))) = jv_ws G jv_os (jv_si σ k j x) :=
  jv_ws_set ho (by simp [jv_en, jv_si, jv_u]) (fun k' h => jv_u_ne h) (fun k' h => rfl)
theorem jv_set_a2 {G : jv_G} {σ : jv_S} {k n : Nat} {j : Nat} {x : Int64} (ho : jv_os[k]? = some (.inr (2, n))) : (jv_ws G jv_os σ).set k (G.2.1 k, .inl (G.2.2.1.2.2, n, .inr (.inl (vp_updL (σ.2 k) j x)))) = jv_ws G jv_os (jv_sl σ k j x) :=
  jv_ws_set ho (by simp [jv_en, jv_sl, jv_u]) (fun k' h => rfl) (fun k' h => jv_u_ne h)

theorem jv_iast {k0 n : Nat} {i x : Int32} (hc : jv_Cx E own cc nL d) (hd : decode cc pc = .ok (.iastore, 1)) (hp : pc + 1 = pc') (ho : jv_os[k0]? = some (.inr (0, n))) (hin : vp_in i n) (k : jv_V E pc' L (st) (jv_si σ k0 i.toNatClampNeg x)) : jv_V E pc L (.int x :: .int i :: .ref k0 :: st) σ := by
  subst hp
  obtain ⟨p, l, e, R, s, m, args, below, meth, c, cells, slots, Q, G⟩ := E
  obtain ⟨hx, hb, hml, hown, hts, hX, hZ, hD, hB, hR⟩ := hc
  subst hml
  intro H locs ls hP hS hl
  refine va_iast (D := G.1) (cl := vwCl) (tys := jv_tys G) hx hb hX.1 hP (hD.va (σ := σ)) hS k0 0 (jv_ws_at ho) rfl hin hd (fun H1 locs1 hP1 _ hS1 => ?_)
  rw [jv_set_a0 ho] at hP1
  exact k H1 locs1 ls hP1 hS1 hl
theorem jv_last {k0 n : Nat} {i : Int32} {x : Int64} (hc : jv_Cx E own cc nL d) (hd : decode cc pc = .ok (.lastore, 1)) (hp : pc + 1 = pc') (ho : jv_os[k0]? = some (.inr (2, n))) (hin : vp_in i n) (k : jv_V E pc' L (st) (jv_sl σ k0 i.toNatClampNeg x)) : jv_V E pc L (.long x :: .int i :: .ref k0 :: st) σ := by
  subst hp
  obtain ⟨p, l, e, R, s, m, args, below, meth, c, cells, slots, Q, G⟩ := E
  obtain ⟨hx, hb, hml, hown, hts, hX, hZ, hD, hB, hR⟩ := hc
  subst hml
  intro H locs ls hP hS hl
  refine va_last (D := G.1) (cl := vwCl) (tys := jv_tys G) hx hb hX.1 hP (hD.va (σ := σ)) hS k0 2 (jv_ws_at ho) rfl hin hd (fun H1 locs1 hP1 _ hS1 => ?_)
  rw [jv_set_a2 ho] at hP1
  exact k H1 locs1 ls hP1 hS1 hl
theorem jv_alen {k0 n : Nat} {v : Int32} (hc : jv_Cx E own cc nL d) (hd : decode cc pc = .ok (.arraylength, 1)) (hp : pc + 1 = pc') (ho : jv_os[k0]? = some (.inr (0, n))) (hv : Int32.ofNat n = v) (k : jv_V E pc' L (.int v :: st) σ) : jv_V E pc L (.ref k0 :: st) σ := by
  subst hp
  obtain ⟨p, l, e, R, s, m, args, below, meth, c, cells, slots, Q, G⟩ := E
  obtain ⟨hx, hb, hml, hown, hts, hX, hZ, hD, hB, hR⟩ := hc
  subst hml
  intro H locs ls hP hS hl
  exact va_alen (D := G.1) (cl := vwCl) (tys := jv_tys G) hx hb hX.1 hP k0 0 (jv_ws_at ho) rfl hv hd (k H locs ls hP hS hl)
theorem jv_alenl {k0 n : Nat} {v : Int32} (hc : jv_Cx E own cc nL d) (hd : decode cc pc = .ok (.arraylength, 1)) (hp : pc + 1 = pc') (ho : jv_os[k0]? = some (.inr (2, n))) (hv : Int32.ofNat n = v) (k : jv_V E pc' L (.int v :: st) σ) : jv_V E pc L (.ref k0 :: st) σ := by
  subst hp
  obtain ⟨p, l, e, R, s, m, args, below, meth, c, cells, slots, Q, G⟩ := E
  obtain ⟨hx, hb, hml, hown, hts, hX, hZ, hD, hB, hR⟩ := hc
  subst hml
  intro H locs ls hP hS hl
  exact va_alen (D := G.1) (cl := vwCl) (tys := jv_tys G) hx hb hX.1 hP k0 2 (jv_ws_at ho) rfl hv hd (k H locs ls hP hS hl)
end JVROWS
