/-! ===== the world as it grows: object k is the k-th cell that is made ===== -/
def jv_z : jv_S := (fun _ _ => 0, fun _ _ => 0)
def jv_K (G : jv_G) : Prop := ∀ k, k < 35 → G.2.1 k = G.2.2.2 + k
def jv_IK (G : jv_G) (os : List jv_O) (σ : jv_S) (U : State) : Prop := jv_X G jv_strs U ∧ jv_Z G U U.heap ∧ va_P G.1 vwCl (jv_ws G os σ) U.heap ∧ jv_K G ∧ U.heap.size = G.2.2.2 + os.length
def jv_QK (G : jv_G) (os : List jv_O) (σ : jv_S) : Array Value → State → Outcome → State → Prop := fun _ st oc t => oc = .returned none ∧ va_P G.1 vwCl (jv_ws G os σ) t.heap ∧ t.heap.size = G.2.2.2 + os.length ∧ va_F (jv_A G) st t
def jv_Ck (G : jv_G) (l : Launch) (d : Nat) (M : jv_M) (As : List Value) (os : List jv_O) (σ : jv_S) (os' : List jv_O) (σ' : jv_S) (mc ms : Nat) : Prop :=
  Met l M.1 (.code M.1 M.2.1 M.2.2.1 M.2.2.2 :: jv_WS) (jv_R d mc ms) (va_Pc (As.map (jv_cv G)) (jv_IK G os σ)) (jv_QK G os' σ') mc ms (jv_A G)
def jv_VK (E : jv_E) (ck cs : Nat) (os : List jv_O) (pc : Nat) (L : List (Option Value)) (st : List Value) (σ : jv_S) : Prop := match E with
  | (p, l, e, R, s, m, args, below, meth, c, _, _, Q, G) => ∀ (H : Heap) (locs : List Loc) (ls : Array Slot), va_P G.1 vwCl (jv_ws G os σ) H → H.size = G.2.2.2 + os.length → va_S (jv_A G) s.heap H locs → lv_has ls c.maxLocals (jv_lst G 0 L) →
      W p l e R s m args below meth c H locs ck cs Q (F0 m pc ls (st.map (jv_cv G)))
/-- mc, ms: the room that the frame has for cells and slots -/
def jv_CK (E : jv_E) (own : String) (cc : ByteArray) (nL d mc ms : Nat) : Prop := match E with
  | (p, _, _, R, s, m, args, _, _, c, _, _, _, G) => p.tables.exec = Jvm.exec ∧ c.code = cc ∧ c.maxLocals = nL ∧ s.vm.findClass own = some m.cls ∧ (∀ w ∈ jv_WS, w.before args s = true) ∧ jv_X G jv_strs s ∧ jv_Z G s s.heap ∧ jv_K G ∧ G.2.2.2 ≤ s.heap.size ∧
      d + 12 ≤ R.frames ∧ 64 * d + 250 ≤ R.locals ∧ mc ≤ R.cells ∧ ms ≤ R.slots
def jv_ini (E : jv_E) : Prop := match E with
  | (_, _, _, _, _, _, _, _, meth, _, _, _, _, _) => meth.name = "<init>"
theorem jv_K.ap {G : jv_G} {os : List jv_O} (h : jv_K G) (hl : os.length ≤ 35) : jv_D G os := by
  refine ⟨fun i j hi hj e => ?_, fun i hi => ?_⟩
  · rw [h i (by omega), h j (by omega)] at e
    omega
  · rw [h i (by omega)]
    exact ⟨Nat.le_add_right _ _, by omega⟩
section JVK
variable {E : jv_E} {own : String} {cc : ByteArray} {nL d mc ms ck cs pc pc' : Nat} {os os' : List jv_O} {L L' : List (Option Value)} {st : List Value} {σ : jv_S}
theorem jk_aload_n {k4 : Fin 4} {x : Nat} (hc : jv_CK E own cc nL d mc ms) (hd : decode cc pc = .ok (.aload_n k4, 1)) (hp : pc + 1 = pc') (i : Nat) (hi : (k4 : Nat) = i) (hL : L[i]? = some (some (.ref x))) (k : jv_VK E ck cs os pc' L (.ref x :: st) σ) : jv_VK E ck cs os pc L st σ := by
  subst hp
  obtain ⟨p, l, e, R, s, m, args, below, meth, c, cells, slots, Q, G⟩ := E
  obtain ⟨hx, hb, hml, -⟩ := hc
  intro H locs ls hP hH hS hl
  exact lv_aload_n hx hb hd hi (jv_at hl hL) (k H locs ls hP hH hS hl)
theorem jk_dup {v : Value} (hc : jv_CK E own cc nL d mc ms) (hd : decode cc pc = .ok (.dup, 1)) (hp : pc + 1 = pc') (hv : v.category = 1) (k : jv_VK E ck cs os pc' L (v :: v :: st) σ) : jv_VK E ck cs os pc L (v :: st) σ := by
  subst hp
  obtain ⟨p, l, e, R, s, m, args, below, meth, c, cells, slots, Q, G⟩ := E
  obtain ⟨hx, hb, hml, -⟩ := hc
  intro H locs ls hP hH hS hl
  exact lv_dup hx hb hd (by rw [jv_cv_cat]; exact hv) (k H locs ls hP hH hS hl)
theorem jk_iconst {n : Int} {v : Int32} (hc : jv_CK E own cc nL d mc ms) (hd : decode cc pc = .ok (.iconst n, 1)) (hp : pc + 1 = pc') (hv : Int32.ofInt n = v) (k : jv_VK E ck cs os pc' L (.int v :: st) σ) : jv_VK E ck cs os pc L st σ := by
  subst hp
  obtain ⟨p, l, e, R, s, m, args, below, meth, c, cells, slots, Q, G⟩ := E
  obtain ⟨hx, hb, hml, -⟩ := hc
  intro H locs ls hP hH hS hl
  exact lv_iconst hx hb hd hv (k H locs ls hP hH hS hl)
theorem jk_bipush {n : Int} {v : Int32} (hc : jv_CK E own cc nL d mc ms) (hd : decode cc pc = .ok (.bipush n, 2)) (hp : pc + 2 = pc') (hv : (Int8.ofInt n).toInt32 = v) (k : jv_VK E ck cs os pc' L (.int v :: st) σ) : jv_VK E ck cs os pc L st σ := by
  subst hp
  obtain ⟨p, l, e, R, s, m, args, below, meth, c, cells, slots, Q, G⟩ := E
  obtain ⟨hx, hb, hml, -⟩ := hc
  intro H locs ls hP hH hS hl
  exact lv_bipush hx hb hd hv (k H locs ls hP hH hS hl)
theorem jk_sipush {n : Int} {v : Int32} (hc : jv_CK E own cc nL d mc ms) (hd : decode cc pc = .ok (.sipush n, 3)) (hp : pc + 3 = pc') (hv : (Int16.ofInt n).toInt32 = v) (k : jv_VK E ck cs os pc' L (.int v :: st) σ) : jv_VK E ck cs os pc L st σ := by
  subst hp
  obtain ⟨p, l, e, R, s, m, args, below, meth, c, cells, slots, Q, G⟩ := E
  obtain ⟨hx, hb, hml, -⟩ := hc
  intro H locs ls hP hH hS hl
  exact lv_sipush hx hb hd hv (k H locs ls hP hH hS hl)
theorem jk_astore_n {k4 : Fin 4} {x : Nat} (hc : jv_CK E own cc nL d mc ms) (hd : decode cc pc = .ok (.astore_n k4, 1)) (hp : pc + 1 = pc') (i : Nat) (hi : (k4 : Nat) = i) (hn : i < nL) (hk : jv_nl L i = true) (hL : L.set i (some (.ref x)) = L') (k : jv_VK E ck cs os pc' L' st σ) : jv_VK E ck cs os pc L (.ref x :: st) σ := by
  subst hp; subst hL
  obtain ⟨p, l, e, R, s, m, args, below, meth, c, cells, slots, Q, G⟩ := E
  obtain ⟨hx, hb, hml, -⟩ := hc
  subst hml
  intro H locs ls hP hH hS hl
  exact lv_astore_n hx hb hd hi hl hn rfl (fun ls h => k H locs ls hP hH hS (jv_set1 (v := .ref x) rfl hk h))
/-- Object.<init> -/
theorem jk_obj {x index : Nat} (hc : jv_CK E own cc nL d mc ms) (hd : decode cc pc = .ok (.invokespecial index, 3)) (hp : pc + 3 = pc') (h1 : Cond.methodLink own index Lib.objectInit ∈ jv_WS) (h2 : Cond.instanceMethod Lib.objectInit ∈ jv_WS) (h3 : Cond.code Lib.objectInit ⟨#[0xb1]⟩ 1 none ∈ jv_WS)
    (hroom : (st.map fun v => v.category).sum ≤ 8) (k : jv_VK E ck cs os pc' L st σ) : jv_VK E ck cs os pc L (.ref x :: st) σ := by
  subst hp
  obtain ⟨p, l, e, R, s, m, args, below, meth, c, cells, slots, Q, G⟩ := E
  obtain ⟨hx, hb, hml, hown, hts, hX, hZ, hK, hB, hR1, hR2, hR3, hR4⟩ := hc
  intro H locs ls hP hH hS hl
  have h8 := jv_sum (G := G) hroom
  exact W.objInit hx hb hown (hts _ h1) (hts _ h2) (hts _ h3) rfl hl.1 rfl hd (by omega) (by show 2 * 0 + _ + 12 ≤ _; omega) (k H locs ls hP hH hS hl)
/-- a new object of the class ci, its fields at rest -/
def jv_dv : Nat → Value
  | 0 => .int 0
  | 1 => .long 0
  | _ => .null
theorem jv_born {G : jv_G} {σ : jv_S} {k : Nat} (fc : List Nat) (h1 : σ.1 k = fun _ => 0) (h2 : σ.2 k = fun _ => 0) (hle : fc.all (fun c => decide (c ≤ 2)) = true) : fc.mapIdx (fun j c => jv_cv G (jv_fa σ k j c)) = fc.map jv_dv := by
  apply List.ext_getElem?
  intro i
  rw [List.getElem?_mapIdx, List.getElem?_map]
  cases hi : fc[i]? with
  | none => rfl
  | some c =>
    have hc : c ≤ 2 := by
      have := List.all_eq_true.mp hle c (List.mem_of_getElem? hi)
      simpa using this
    match c, hc with
    | 0, _ => simp [jv_fa, jv_dv, jv_cv, h1]
    | 1, _ => simp [jv_fa, jv_dv, jv_cv, h2]
    | 2, _ => simp [jv_fa, jv_dv, jv_cv]
def jv_Nw (own : String) (index ci : Nat) (fc : List Nat) : Prop := ∃ (C : String) (T : u_T) (N : Nat) (ty : Nat → FieldType), vwCl[ci]? = some (C, T, N) ∧ (∀ w ∈ u_ws C T N, w ∈ jv_WS) ∧ (∀ k, k < N → parseFieldDescriptor (T k).2.2.1 = some (ty k)) ∧ Cond.classLink own index C ∈ jv_WS ∧ Cond.instantiable C N ∈ jv_WS ∧ Cond.initialized C ∈ jv_WS ∧ N = fc.length ∧ (∀ j, j < N → defaultValue (ty j) = vp_V (fc.map jv_dv) j) ∧ fc.all (fun c => decide (c ≤ 2)) = true
theorem jv_ws_app {G : jv_G} {os : List jv_O} {o : jv_O} {σ : jv_S} : jv_ws G (os ++ [o]) σ = jv_ws G os σ ++ [(G.2.1 os.length, jv_en G σ os.length o)] := by
  simp [jv_ws, List.mapIdx_append]
theorem jk_new {index ci : Nat} {fc : List Nat} (hc : jv_CK E own cc nL d mc ms) (hd : decode cc pc = .ok (.new index, 3)) (hp : pc + 3 = pc') (hn : jv_Nw own index ci fc) (n : Nat) (hos : os.length = n) (hn62 : n < 35) (h1 : σ.1 n = fun _ => 0) (h2 : σ.2 n = fun _ => 0) (w : Nat) (hw : fc.length = w) (hmc : ck + 1 ≤ mc) (hms : cs + w ≤ ms) (he : os ++ [.inl (ci, fc)] = os')
    (k : jv_VK E (ck + 1) (cs + w) os' pc' L (.ref n :: st) σ) : jv_VK E ck cs os pc L st σ := by
  subst hp; subst he; subst hos; subst hw
  obtain ⟨p, l, e, R, s, m, args, below, meth, c, cells, slots, Q, G⟩ := E
  obtain ⟨hx, hb, hml, hown, hts, hX, hZ, hK, hB, hR1, hR2, hR3, hR4⟩ := hc
  obtain ⟨C, T, N, ty, g1, g2, g3, g4, g5, g6, g7, g8, g9⟩ := hn
  intro H locs ls hP hH hS hl
  have hKn := hX.1.1 ci _ g1
  refine W.newcK hx hb hown (hts _ g4) (hts _ g5) (hts _ g6) rfl hd (by omega) (by omega) hKn.2.1 rfl fun H1 kC hkC e1 z1 o1 => ?_
  have hk : ∀ (k : Nat) (x : Nat × va_E), (jv_ws G os σ)[k]? = some x → H1[x.1]? = H[x.1]? := fun k x hx => o1 x.1 ((hP k x hx).lt)
  have had : G.2.1 os.length = H.size := by rw [hK _ hn62, hH]
  have hP1 : va_P G.1 vwCl (jv_ws G (os ++ [.inl (ci, fc)]) σ) H1 := by
    rw [jv_ws_app]
    refine (hP.kept hk).app (fun j x hx => ?_)
    have hz : j < 1 := (List.getElem?_eq_some_iff.mp hx).1
    rw [show j = 0 by omega] at hx
    cases hx
    show va_at _ _ (G.2.1 os.length, .inr (ci, _)) H1
    rw [jv_born fc h1 h2 g9, had]
    exact ⟨_, g1, (u_born ty hts g2 hKn hkC e1 g3).to g8⟩
  have := k H1 locs ls hP1 (by rw [z1, hH, List.length_append]; rfl) ⟨Nat.le_trans hS.1 (by omega), fun x h1 h2 => (o1 x (Nat.lt_of_lt_of_le h1 hS.1)).trans (hS.2.1 x h1 h2), hS.2.2⟩ hl
  rw [List.map_cons, show jv_cv G (.ref os.length) = .ref H.size from congrArg Value.ref had] at this
  rw [← g7] at this
  exact this
theorem jk_newi {v : Int32} {N : Nat} (hc : jv_CK E own cc nL d mc ms) (hd : decode cc pc = .ok (.newarray .int, 2)) (hp : pc + 2 = pc') (ha : Cond.arrayClass .int ∈ jv_WS) (n : Nat) (hos : os.length = n) (hn62 : n < 35) (h1 : σ.1 n = fun _ => 0) (hv : ¬ v < 0 ∧ v.toNatClampNeg = N ∧ N ≤ 10000) (hmc : ck + 1 ≤ mc) (hms : cs + N ≤ ms) (he : os ++ [.inr (0, N)] = os')
    (k : jv_VK E (ck + 1) (cs + N) os' pc' L (.ref n :: st) σ) : jv_VK E ck cs os pc L (.int v :: st) σ := by
  subst hp; subst he; subst hos
  obtain ⟨p, l, e, R, s, m, args, below, meth, c, cells, slots, Q, G⟩ := E
  obtain ⟨hx, hb, hml, hown, hts, hX, hZ, hK, hB, hR1, hR2, hR3, hR4⟩ := hc
  intro H locs ls hP hH hS hl
  refine va_newaK hx hb (atype := .int) (hts _ ha) rfl hd rfl hv.1 hv.2.1 (by have := hv.2.2; show N * 4 ≤ _; omega) (by omega) (by omega) rfl fun H1 cA e1 z1 o1 hAr hNm => ?_
  have hk : ∀ (k : Nat) (x : Nat × va_E), (jv_ws G os σ)[k]? = some x → H1[x.1]? = H[x.1]? := fun k x hx => o1 x.1 ((hP k x hx).lt)
  have had : G.2.1 os.length = H.size := by rw [hK _ hn62, hH]
  have hcA : G.2.2.1.1 = cA := Option.some.inj (((hX.1.2 0 _ rfl).2 : s.vm.findClass _ = some _).symm.trans hNm)
  have hP1 : va_P G.1 vwCl (jv_ws G (os ++ [.inr (0, N)]) σ) H1 := by
    rw [jv_ws_app]
    refine (hP.kept hk).app (fun j x hx => ?_)
    have hz : j < 1 := (List.getElem?_eq_some_iff.mp hx).1
    rw [show j = 0 by omega] at hx
    cases hx
    show H1[G.2.1 os.length]? = some (vp_cell G.2.2.1.1 (N, .inl (σ.1 os.length)))
    rw [h1, had, hcA]
    exact e1
  have := k H1 locs ls hP1 (by rw [z1, hH, List.length_append]; rfl) ⟨Nat.le_trans hS.1 (by omega), fun x h1 h2 => (o1 x (Nat.lt_of_lt_of_le h1 hS.1)).trans (hS.2.1 x h1 h2), hS.2.2⟩ hl
  rw [List.map_cons, show jv_cv G (.ref os.length) = .ref H.size from congrArg Value.ref had] at this
  exact this
theorem jk_newj {v : Int32} {N : Nat} (hc : jv_CK E own cc nL d mc ms) (hd : decode cc pc = .ok (.newarray .long, 2)) (hp : pc + 2 = pc') (ha : Cond.arrayClass .long ∈ jv_WS) (n : Nat) (hos : os.length = n) (hn62 : n < 35) (h1 : σ.2 n = fun _ => 0) (hv : ¬ v < 0 ∧ v.toNatClampNeg = N ∧ N ≤ 10000) (hmc : ck + 1 ≤ mc) (hms : cs + N ≤ ms) (he : os ++ [.inr (2, N)] = os')
    (k : jv_VK E (ck + 1) (cs + N) os' pc' L (.ref n :: st) σ) : jv_VK E ck cs os pc L (.int v :: st) σ := by
  subst hp; subst he; subst hos
  obtain ⟨p, l, e, R, s, m, args, below, meth, c, cells, slots, Q, G⟩ := E
  obtain ⟨hx, hb, hml, hown, hts, hX, hZ, hK, hB, hR1, hR2, hR3, hR4⟩ := hc
  intro H locs ls hP hH hS hl
  refine va_newaK hx hb (atype := .long) (hts _ ha) rfl hd rfl hv.1 hv.2.1 (by have := hv.2.2; show N * 8 ≤ _; omega) (by omega) (by omega) rfl fun H1 cA e1 z1 o1 hAr hNm => ?_
  have hk : ∀ (k : Nat) (x : Nat × va_E), (jv_ws G os σ)[k]? = some x → H1[x.1]? = H[x.1]? := fun k x hx => o1 x.1 ((hP k x hx).lt)
  have had : G.2.1 os.length = H.size := by rw [hK _ hn62, hH]
  have hcA : G.2.2.1.2.2 = cA := Option.some.inj (((hX.1.2 2 _ rfl).2 : s.vm.findClass _ = some _).symm.trans hNm)
  have hP1 : va_P G.1 vwCl (jv_ws G (os ++ [.inr (2, N)]) σ) H1 := by
    rw [jv_ws_app]
    refine (hP.kept hk).app (fun j x hx => ?_)
    have hz : j < 1 := (List.getElem?_eq_some_iff.mp hx).1
    rw [show j = 0 by omega] at hx
    cases hx
    show H1[G.2.1 os.length]? = some (vp_cell G.2.2.1.2.2 (N, .inr (.inl (σ.2 os.length))))
    rw [h1, had, hcA]
    exact e1
  have := k H1 locs ls hP1 (by rw [z1, hH, List.length_append]; rfl) ⟨Nat.le_trans hS.1 (by omega), fun x h1 h2 => (o1 x (Nat.lt_of_lt_of_le h1 hS.1)).trans (hS.2.1 x h1 h2), hS.2.2⟩ hl
  rw [List.map_cons, show jv_cv G (.ref os.length) = .ref H.size from congrArg Value.ref had] at this
  exact this
/-- a final field gets its object -/
def jv_Ff (own : String) (index ci j : Nat) (ty : FieldType) : Prop := ∃ (C : String) (T : u_T) (N : Nat) (ty0 : Nat → FieldType), vwCl[ci]? = some (C, T, N) ∧ j < N ∧ (∀ w ∈ u_ws C T N, w ∈ jv_WS) ∧ Cond.fieldLink own index (T j).1 (T j).2.1 (T j).2.2.1 ∈ jv_WS ∧
  (∀ k, k < N → parseFieldDescriptor (T k).2.2.1 = some (ty0 k)) ∧ (∀ a, a < N → ∀ b, b < N → a ≠ b → (T a).2.1 ≠ (T b).2.1) ∧ (T j).2.2.2 = true ∧ (T j).1 = own ∧ parseFieldDescriptor (T j).2.2.1 = some ty
theorem jv_set_o {G : jv_G} {σ : jv_S} {k ci j r : Nat} {fc : List Nat} {os : List jv_O} (ho : os[k]? = some (.inl (ci, fc))) (hj : j < fc.length) :
    (jv_ws G os σ).set k (G.2.1 k, .inr (ci, (fc.mapIdx (fun j c => jv_cv G (jv_fa σ k j c))).set j (.ref (G.2.1 r)))) = jv_ws G (os.set k (.inl (ci, fc.set j (r + 3)))) σ := by
  have hk : k < os.length := (List.getElem?_eq_some_iff.mp ho).1
  apply List.ext_getElem?
  intro i
  rw [List.getElem?_set]
  simp only [jv_ws, List.getElem?_mapIdx, List.length_mapIdx, List.getElem?_set]
  by_cases e : k = i
  · subst e
    rw [if_pos rfl, if_pos hk, if_pos rfl, if_pos hk]
    show some _ = some (G.2.1 k, Sum.inr (ci, _))
    congr 4
    apply List.ext_getElem?
    intro z
    rw [List.getElem?_set, List.getElem?_mapIdx, List.getElem?_mapIdx, List.getElem?_set, List.length_mapIdx]
    by_cases e2 : j = z
    · subst e2
      rw [if_pos rfl, if_pos hj, if_pos rfl, if_pos hj]
      rfl
    · rw [if_neg e2, if_neg e2]
  · rw [if_neg e, if_neg e]
theorem jk_putF {index ci j k0 r : Nat} {fc : List Nat} {ty : FieldType} (hc : jv_CK E own cc nL d mc ms) (hi : jv_ini E) (hd : decode cc pc = .ok (.putfield index, 3)) (hp : pc + 3 = pc') (hf : jv_Ff own index ci j ty) (ho : os[k0]? = some (.inl (ci, fc))) (hj : j < fc.length) (hl62 : os.length ≤ 35)
    (hn : ∀ a, narrow ty (.ref a) = .ref a) (hfit : ∀ a, fits ty (.ref a) = true) (he : os.set k0 (.inl (ci, fc.set j (r + 3))) = os') (k : jv_VK E ck cs os' pc' L st σ) : jv_VK E ck cs os pc L (.ref r :: .ref k0 :: st) σ := by
  subst hp; subst he
  obtain ⟨p, l, e, R, s, m, args, below, meth, c, cells, slots, Q, G⟩ := E
  obtain ⟨hx, hb, hml, hown, hts, hX, hZ, hK, hB, hR1, hR2, hR3, hR4⟩ := hc
  obtain ⟨C, T, N, ty0, h1, h2, h3, h4, h5, h6, h7, h7b, h8⟩ := hf
  intro H locs ls hP hH hS hl
  have hD : jv_D G os := hK.ap hl62
  have hap := va_apart (own := own) hts h3 ty0 h5 h6 hX.1 h1
  obtain ⟨r0, g1, cell, q1, q2, q3, q4⟩ := hP k0 _ (jv_ws_at ho)
  have hr : r0 = (C, T, N) := Option.some.inj (g1.symm.trans h1)
  subst hr
  obtain ⟨hS9, hfc, kC, hkC, hkind⟩ := hX.1.1 ci _ h1
  obtain ⟨cf, kf, fi, f, hif, hsl⟩ := hS9 j h2
  have hlay := hts _ (h3 _ (u_in_lay h2))
  unfold u_lay at hlay
  rw [if_pos h7] at hlay
  have hst := (u_facts hfc hkC (u_lays hts h3 h2) hif).1
  have hcf : m.cls = cf := by
    obtain ⟨_, _, c', _, _, _, -, -, hf', -, -, -, hown2, -⟩ := Cond.laysFinal_spec hlay
    have e1 : c' = cf := by have := hif.symm.trans hf'; simp at this; exact this.1.symm
    rw [h7b] at hown2
    rw [← e1]; exact Option.some.inj (hown.symm.trans hown2)
  have h6b := u_fits hfc hkC hkind (Or.inr hlay) hif h8 (hn (G.2.1 r)) (hfit (G.2.1 r))
  refine W.putFinK hx hb hown (hts _ h4) hif hst hcf hi (by rw [q2]; exact h6b) q1 q3 (by rw [hsl]; exact k2_hasslot (q4 j h2)) rfl rfl hd fun H' e1 e2 e3 => ?_
  rw [hsl] at e1 ⊢
  have hjl : j < (fc.mapIdx (fun j c => jv_cv G (jv_fa σ k0 j c))).length := by simpa using hj
  have hP1 := hP.set (hD.va (σ := σ)) (jv_ws_at ho) (show va_at G.1 vwCl (G.2.1 k0, .inr (ci, (fc.mapIdx (fun j c => jv_cv G (jv_fa σ k0 j c))).set j (.ref (G.2.1 r)))) H' from ⟨_, h1, t_OB.to (V := updV (vp_V (fc.mapIdx (fun j c => jv_cv G (jv_fa σ k0 j c)))) j (.ref (G.2.1 r))) ⟨_, e1, q2, q3, t_set q4 hap h2 _⟩ (fun z _ => vp_updV_set hjl _ z)⟩) e3
  rw [jv_set_o ho hj] at hP1
  exact k H' _ ls hP1 (by rw [e2, hH, List.length_set]) (hS.put e2 e3 ((hD.va (σ := σ)).2 k0 _ (jv_ws_at ho))) hl
theorem jv_set_foi {G : jv_G} {os : List jv_O} {σ : jv_S} {k ci j : Nat} {fc : List Nat} {x : Int32} (ho : os[k]? = some (.inl (ci, fc))) (hj : fc[j]? = some 0) :
    (jv_ws G os σ).set k (G.2.1 k, .inr (ci, (fc.mapIdx (fun j c => jv_cv G (jv_fa σ k j c))).set j (.int x))) = jv_ws G os (jv_si σ k j x) := by
  refine jv_ws_set ho ?_ (fun k' h => jv_u_ne h) (fun k' h => rfl)
  have e := jv_fs_set (G := G) (σ := σ) (τ := jv_si σ k j x) (k := k) hj (fun j2 c2 h => by
    match c2 with
    | 0 => simp [jv_fa, jv_si, jv_u, upd, h]
    | 1 => rfl
    | 2 => rfl
    | r + 3 => rfl) (v := .int x) (by simp [jv_fa, jv_si, jv_u, upd, jv_cv])
  simp only [jv_en, e]
theorem jk_puti {index ci j k0 : Nat} {fc : List Nat} {x : Int32} (hc : jv_CK E own cc nL d mc ms) (hd : decode cc pc = .ok (.putfield index, 3)) (hp : pc + 3 = pc') (hf : jv_Fp own index ci j .int) (ho : os[k0]? = some (.inl (ci, fc))) (hj : fc[j]? = some 0) (hl62 : os.length ≤ 35)
    (k : jv_VK E ck cs os pc' L st (jv_si σ k0 j x)) : jv_VK E ck cs os pc L (.int x :: .ref k0 :: st) σ := by
  subst hp
  obtain ⟨p, l, e, R, s, m, args, below, meth, c, cells, slots, Q, G⟩ := E
  obtain ⟨hx, hb, hml, hown, hts, hX, hZ, hK, hB, hR1, hR2, hR3, hR4⟩ := hc
  obtain ⟨C, T, N, ty0, h1, h2, h3, h4, h5, h6, h7, h8⟩ := hf
  intro H locs ls hP hH hS hl
  have hD : jv_D G os := hK.ap hl62
  have hap := va_apart (own := own) hts h3 ty0 h5 h6 hX.1 h1
  obtain ⟨r0, g1, cell, q1, q2, q3, q4⟩ := hP k0 _ (jv_ws_at ho)
  have hr : r0 = (C, T, N) := Option.some.inj (g1.symm.trans h1)
  subst hr
  obtain ⟨hS9, hfc, kC, hkC, hkind⟩ := hX.1.1 ci _ h1
  obtain ⟨cf, kf, fi, f, hif, hsl⟩ := hS9 j h2
  have hlay := hts _ (h3 _ (u_in_lay h2))
  unfold u_lay at hlay
  rw [if_neg (by rw [h7]; decide)] at hlay
  have hst := (u_facts hfc hkC (u_lays hts h3 h2) hif).1
  have h6b := u_store hfc hkC hkind hlay hif h8 (show narrow .int (.int x) = .int x from rfl) (show fits .int (.int x) = true from rfl)
  refine W.putK hx hb (f := f) ⟨hown, hts _ h4, ⟨_, _, _, hif⟩, hst⟩ (by rw [q2]; exact h6b) q1 q3 (by rw [hsl]; exact k2_hasslot (q4 j h2)) rfl rfl hd fun H' e1 e2 e3 => ?_
  rw [hsl] at e1 ⊢
  have hjl : j < (fc.mapIdx (fun j c => jv_cv G (jv_fa σ k0 j c))).length := by simpa using (List.getElem?_eq_some_iff.mp hj).1
  have hP1 := hP.set (hD.va (σ := σ)) (jv_ws_at ho) (show va_at G.1 vwCl (G.2.1 k0, .inr (ci, (fc.mapIdx (fun j c => jv_cv G (jv_fa σ k0 j c))).set j (.int x))) H' from ⟨_, h1, t_OB.to (V := updV (vp_V (fc.mapIdx (fun j c => jv_cv G (jv_fa σ k0 j c)))) j (.int x)) ⟨_, e1, q2, q3, t_set q4 hap h2 _⟩ (fun z _ => vp_updV_set hjl _ z)⟩) e3
  rw [jv_set_foi ho hj] at hP1
  exact k H' _ ls hP1 (by rw [e2, hH]) (hS.put e2 e3 ((hD.va (σ := σ)).2 k0 _ (jv_ws_at ho))) hl
end JVK
section JVK2
variable {p : Program} {l : Launch} {e : Env} {R : Room} {s : State} {m : MethodId} {args : Array Value} {below : List Frame} {meth : Method} {c : Code} {H : Heap} {locs : List Loc} {cells slots mc ms : Nat} {Q : State → Prop}
variable {G : jv_G} {os os' : List jv_O} {σ σ' : jv_S} {pc : Nat} {ls : Array Slot} {st0 rest : List Value} {a : Array Value}
theorem jk_go (hr : va_Run p l e R s m args below meth c H locs cells slots mc ms (F0 m pc ls st0) rest (jv_QK G os' σ' a) (jv_A G)) (hS : va_S (jv_A G) s.heap H locs)
    (kk : ∀ (H1 : Heap) (locs1 : List Loc), va_P G.1 vwCl (jv_ws G os' σ') H1 → H1.size = G.2.2.2 + os'.length → va_S (jv_A G) s.heap H1 locs1 → W p l e R s m args below meth c H1 locs1 (cells + mc) (slots + ms) Q (F0 m (pc + 3) ls rest)) : W p l e R s m args below meth c H locs cells slots Q (F0 m pc ls st0) := by
  intro T hT X
  obtain ⟨v, st₀, t, T', L, h0, X', hL, e1, e2, ⟨hv, hI, hz0, hz, hk⟩, st⟩ := hr T hT X
  cases hv
  rw [h0] at hz hk
  obtain ⟨t2, a1, b1⟩ := kk T'.heap (locs ++ L) (by rw [e1]; exact hI) (by rw [e1]; exact hz0)
    ⟨Nat.le_trans hS.1 (by rw [e1]; exact hz), fun q h1 h2 => by rw [e1, hk q (Nat.lt_of_lt_of_le h1 hS.1) h2]; exact hS.2.1 q h1 h2, fun q hq => by
      rcases List.mem_append.mp hq with h | h
      · exact hS.2.2 q h
      · exact hL q h⟩ T' rfl X'
  exact ⟨t2, st t2 a1, b1⟩
theorem jk_pre {As : List Value} (hX : jv_X G jv_strs s) (hZ : jv_Z G s s.heap) (hK : jv_K G) (hP : va_P G.1 vwCl (jv_ws G os σ) H) (hH : H.size = G.2.2.2 + os.length) (hS : va_S (jv_A G) s.heap H locs) (U : State) (hU : U.heap = H) (hW : s.WarmedH U.vm) :
    va_Pc (As.map (jv_cv G)) (jv_IK G os σ) (As.map (jv_cv G)).toArray U :=
  ⟨rfl, hX.warm hW, by rw [hU]; exact hZ.warm hW.alike hS, by rw [hU]; exact hP, hK, by rw [hU]; exact hH⟩
theorem jk_blind {As : List Value} : FrameBlind (va_Pc (As.map (jv_cv G)) (jv_IK G os σ)) := by
  intro a U g mk h
  obtain ⟨h0, h1, h2, h3, h4, h5⟩ := h
  exact ⟨h0, h1.warm (State.WarmedH.refl U), ⟨vx_Zq.moved (Vm.Alike.refl U.vm) h2.1, vx_Zq.moved (Vm.Alike.refl U.vm) h2.2⟩, h3, h4, h5⟩
end JVK2
section JVK3
variable {E : jv_E} {own : String} {cc : ByteArray} {nL d d' mc ms m9 s9 ck cs pc pc' : Nat} {os os' : List jv_O} {L : List (Option Value)} {st st0 : List Value} {σ σ' : jv_S} {M : jv_M} {As : List Value} {index n : Nat}
def jv_MI (own : String) (index : Nat) (M : jv_M) (n : Nat) : Prop := jv_MC M n ∧ Cond.methodLink own index M.1 ∈ jv_WS ∧ Cond.instanceMethod M.1 ∈ jv_WS ∧ M.1.name = "<init>" ∧ M.2.2.2 = none
def jv_MIN (own : String) (index : Nat) (host : String) (M : jv_M) (n : Nat) : Prop := jv_MC M n ∧ Cond.methodLinkNest own index M.1 host ∈ lw_tbl ∧ Cond.instanceMethod M.1 ∈ jv_WS ∧ M.1.name = "<init>" ∧ M.2.2.2 = none
theorem jk_call {k0 : Nat} (hc : jv_CK E own cc nL d mc ms) (hd : decode cc pc = .ok (.invokespecial index, 3)) (hp : pc + 3 = pc') (hm : jv_MI own index M n) (hM : jv_Ck (jv_g E) (jv_l E) d' M (.ref k0 :: As) os σ os' σ' m9 s9)
    (hn : As.length = n) (hdd : d' < d) (hst : As.reverse ++ .ref k0 :: st = st0) (hroom : (st.map fun v => v.category).sum ≤ 8) (hmc : ck + m9 ≤ mc) (hms : cs + s9 ≤ ms)
    (k : jv_VK E (ck + m9) (cs + s9) os' pc' L st σ') : jv_VK E ck cs os pc L st0 σ := by
  subst hp; subst hst
  obtain ⟨p, l, e, R, s, m, args, below, meth, c, cells, slots, Q, G⟩ := E
  obtain ⟨hx, hb, hml, hown, hts, hX, hZ, hK, hB, hR1, hR2, hR3, hR4⟩ := hc
  obtain ⟨⟨hm1, hm2, hm3, hm4⟩, hm5, hm6, hm7, hm8⟩ := hm
  subst hml
  intro H locs ls hP hH hS hl
  have hcw : CallB R s args own index M.1 M.2.1 M.2.2.1 none (.code M.1 M.2.1 M.2.2.1 M.2.2.2 :: jv_WS) (jv_R d' m9 s9) m9 s9 n ∧ M.1.name = "<init>" ∧ (Cond.instanceMethod M.1).before args s = true := by
    refine cwI (Ts := jv_WS) n hts (jv_goodc hm1) (by rw [hm8]) rfl rfl (hts _ hm2) (hts _ hm5) (hts _ hm6) hm7 hm3 ⟨?_, ?_⟩
    · show d' + 12 + 1 ≤ R.frames
      omega
    · exact jv_loc hm4 hdd hR2
  refine jk_go (G := G) (os' := os') (σ' := σ') (mc := m9) (ms := s9) (rest := st.map (jv_cv G)) (a := (Value.ref (G.2.1 k0) :: As.map (jv_cv G)).toArray)
    (va_runI (cc := cc) (nL := c.maxLocals) (own := own) (n := n) (As := As.map (jv_cv G)) (b := G.2.1 k0) (Ts := jv_WS) ⟨hx, hb, rfl, hown, hts⟩ hM hcw ⟨jk_blind, fun U hU hW => jk_pre (As := .ref k0 :: As) hX hZ hK hP hH hS U hU hW⟩ rfl (by rw [List.length_map]; exact hn) hl.1 ?_ (lv_room (rest := []) (m := m) (pc := pc) (ls := ls) (jv_sum hroom)) hd ⟨by omega, by omega⟩) hS (fun H1 locs1 hP1 hH1 hS1 => k H1 locs1 ls hP1 hH1 hS1 hl)
  show List.map (jv_cv G) (As.reverse ++ .ref k0 :: st) = _
  rw [List.map_append, List.map_reverse]; rfl
theorem jk_callN {k0 : Nat} {host : String} (hc : jv_CK E own cc nL d mc ms) (hd : decode cc pc = .ok (.invokespecial index, 3)) (hp : pc + 3 = pc') (hm : jv_MIN own index host M n) (hM : jv_Ck (jv_g E) (jv_l E) d' M (.ref k0 :: As) os σ os' σ' m9 s9)
    (hn : As.length = n) (hdd : d' < d) (hst : As.reverse ++ .ref k0 :: st = st0) (hroom : (st.map fun v => v.category).sum ≤ 8) (hmc : ck + m9 ≤ mc) (hms : cs + s9 ≤ ms)
    (k : jv_VK E (ck + m9) (cs + s9) os' pc' L st σ') : jv_VK E ck cs os pc L st0 σ := by
  subst hp; subst hst
  obtain ⟨p, l, e, R, s, m, args, below, meth, c, cells, slots, Q, G⟩ := E
  obtain ⟨hx, hb, hml, hown, hts, hX, hZ, hK, hB, hR1, hR2, hR3, hR4⟩ := hc
  obtain ⟨⟨hm1, hm2, hm3, hm4⟩, hm5, hm6, hm7, hm8⟩ := hm
  subst hml
  intro H locs ls hP hH hS hl
  have hcw : va_CN R s args own index M.1 host M.2.1 M.2.2.1 none (.code M.1 M.2.1 M.2.2.1 M.2.2.2 :: jv_WS) (jv_R d' m9 s9) m9 s9 n ∧ M.1.name = "<init>" ∧ (Cond.instanceMethod M.1).before args s = true := by
    refine ⟨va_cnB (Ts := jv_WS) n hts (jv_goodc hm1) (by rw [hm8]) rfl rfl (hX.2.1 _ hm5 rfl) (hts _ hm2) hm3 ⟨?_, ?_⟩, hm7, hts _ hm6⟩
    · show d' + 12 + 1 ≤ R.frames
      omega
    · exact jv_loc hm4 hdd hR2
  refine jk_go (G := G) (os' := os') (σ' := σ') (mc := m9) (ms := s9) (rest := st.map (jv_cv G)) (a := (Value.ref (G.2.1 k0) :: As.map (jv_cv G)).toArray)
    (va_runIN (cc := cc) (nL := c.maxLocals) (own := own) (n := n) (As := As.map (jv_cv G)) (b := G.2.1 k0) (Ts := jv_WS) ⟨hx, hb, rfl, hown, hts⟩ hM hcw ⟨jk_blind, fun U hU hW => jk_pre (As := .ref k0 :: As) hX hZ hK hP hH hS U hU hW⟩ rfl (by rw [List.length_map]; exact hn) hl.1 ?_ (lv_room (rest := []) (m := m) (pc := pc) (ls := ls) (jv_sum hroom)) hd ⟨by omega, by omega⟩) hS (fun H1 locs1 hP1 hH1 hS1 => k H1 locs1 ls hP1 hH1 hS1 hl)
  show List.map (jv_cv G) (As.reverse ++ .ref k0 :: st) = _
  rw [List.map_append, List.map_reverse]; rfl
def jv_RK (E : jv_E) (cc : ByteArray) (os : List jv_O) (σ : jv_S) (mc ms : Nat) : Prop := ∀ (pc : Nat) (L : List (Option Value)), decode cc pc = .ok (.return_, 1) → jv_VK E mc ms os pc L [] σ
theorem jv_ofK {G : jv_G} {l : Launch} {L0 : List (Option Value)} (hy : plainName M.1.cls = true) (hi : M.1.name = "<init>") (hlen : (jv_args As).length ≤ M.2.2.1) (hL : jv_args As ++ List.replicate (M.2.2.1 - (jv_args As).length) none = L0) (hok : M.2.2.2 = none)
    (body : ∀ E : jv_E, jv_l E = l → jv_g E = G → jv_CK E M.1.cls M.2.1 M.2.2.1 d mc ms → jv_ini E → jv_RK E M.2.1 os' σ' mc ms → jv_VK E 0 0 os 0 L0 [] σ) : jv_Ck G l d M As os σ os' σ' mc ms := by
  refine Met.ofW (cc := M.2.1) (maxL := M.2.2.1) (ret := M.2.2.2) hy rfl ?_
  intro p e s m args below meth c s₁ B hml hv
  obtain ⟨rfl, hX, hZ, hP, hK, hH⟩ := hv
  have hx := B.exec
  have hb := B.bytes
  have hr := B.returns
  have hts := atoms_spec (ws := .code M.1 M.2.1 M.2.2.1 M.2.2.2 :: jv_WS) B.pre
  have hown : s.vm.findClass M.1.cls = some m.cls := findClass_of_methodNamed B.named
  have hin : meth.name = "<init>" := (name_of_methodNamed B.named B.method).1.trans hi
  have hlocks := B.notSynchronized
  have hcx : jv_CK (p, l, e, jv_R d mc ms, s, m, (As.map (jv_cv G)).toArray, below, meth, c, 0, 0, MQ below (jv_QK G os' σ') (As.map (jv_cv G)).toArray s mc ms (jv_A G), G) M.1.cls M.2.1 M.2.2.1 d mc ms :=
    ⟨hx, hb, hml, hown, fun w hw => hts w (List.mem_cons_of_mem _ hw), hX, hZ, hK, by rw [hH]; exact Nat.le_add_right _ _, Nat.le_refl _, Nat.le_refl _, Nat.le_refl _, Nat.le_refl _⟩
  have hrt : jv_RK (p, l, e, jv_R d mc ms, s, m, (As.map (jv_cv G)).toArray, below, meth, c, 0, 0, MQ below (jv_QK G os' σ') (As.map (jv_cv G)).toArray s mc ms (jv_A G), G) M.2.1 os' σ' mc ms := by
    intro pc L hd H locs ls hP hH hS hl
    exact W.vret hx hb (hr.trans hok) (fun t ht hW => ⟨rfl, by rw [ht]; exact hP, by rw [ht]; exact hH, hS.F ht⟩) hS.2.2 hd
  have hv := body _ rfl rfl hcx hin hrt
  rw [lg_entry_eq]
  exact hv s.heap [] _ hP hH va_S.rf (by show lv_has _ c.maxLocals _; rw [hml]; exact jv_entry hlen hL)
end JVK3
