/-! ===== contracts over the flat store, and calls ===== -/
/-- a method: its name, code, locals, what it answers -/
abbrev jv_M : Type := MethodName × ByteArray × Nat × Option FieldType
def jv_R (d k n : Nat) : Room := { frames := d + 12, cells := k, slots := n, locals := 64 * d + 250 }
def jv_Q (G : jv_G) (o : Option Value) (σ' : jv_S) : Array Value → State → Outcome → State → Prop := fun _ st oc t => oc = .returned (o.map (jv_cv G)) ∧ va_P G.1 vwCl (jv_ws G jv_os σ') t.heap ∧ va_F (jv_A G) st t
def jv_QF : Array Value → State → Outcome → State → Prop := fun _ _ _ _ => False
def jv_XC (G : jv_G) (E0 : String) (σ' : jv_S) : String → State → State → Prop := fun E1 st t => E1 = E0 ∧ va_P G.1 vwCl (jv_ws G jv_os σ') t.heap ∧ va_F (jv_A G) st t
/-- M, called with As over the store σ, answers o and leaves σ' -/
def jv_Cn (G : jv_G) (l : Launch) (d : Nat) (M : jv_M) (As : List Value) (σ : jv_S) (o : Option Value) (σ' : jv_S) : Prop :=
  Met l M.1 (.code M.1 M.2.1 M.2.2.1 M.2.2.2 :: jv_WS) (jv_R d 0 0) (va_Pc (As.map (jv_cv G)) (jv_I G jv_os jv_strs σ)) (jv_Q G o σ') 0 0 (jv_A G)
/-- .. or throws E0 and leaves σ' -/
def jv_Ct (G : jv_G) (l : Launch) (d : Nat) (M : jv_M) (As : List Value) (σ : jv_S) (E0 : String) (σ' : jv_S) : Prop :=
  vx_Met l M.1 (.code M.1 M.2.1 M.2.2.1 M.2.2.2 :: jv_WS) (jv_R d 1 6) (va_Pc (As.map (jv_cv G)) (jv_I G jv_os jv_strs σ)) jv_QF (jv_XC G E0 σ') 1 6 (jv_A G)
/-- what the tables say of a call: by name on an object of class C, static, static of a nest mate -/
def jv_MC (M : jv_M) (n : Nat) : Prop := Cond.code M.1 M.2.1 M.2.2.1 M.2.2.2 ∈ jv_WS ∧ Cond.initialized M.1.cls ∈ jv_WS ∧ (M.1.cls ≠ "java/lang/invoke/MethodHandle" ∧ M.1.cls ≠ "java/lang/invoke/VarHandle" ∧ (parseMethodDescriptor M.1.desc).map (fun d => d.parameters.length) = some n) ∧ M.2.2.1 ≤ 45
def jv_MV (own : String) (index : Nat) (M : jv_M) (n : Nat) : Prop := jv_MC M n ∧ Cond.methodLink own index M.1 ∈ jv_WS ∧ Cond.instanceMethod M.1 ∈ jv_WS ∧ Cond.selects M.1.cls M.1 M.1 ∈ jv_WS
def jv_MS (own : String) (index : Nat) (M : jv_M) (n : Nat) : Prop := jv_MC M n ∧ Cond.methodLink own index M.1 ∈ jv_WS ∧ Cond.static M.1 ∈ jv_WS
def jv_MN (own : String) (index : Nat) (host : String) (M : jv_M) (n : Nat) : Prop := jv_MC M n ∧ Cond.methodLinkNest own index M.1 host ∈ lw_tbl ∧ Cond.static M.1 ∈ jv_WS
theorem jv_good : ∀ w ∈ jv_WS, w ∈ jv_WS ∧ ((w.onTables && w.keeps) = true ∨ ∃ ty, w = .arrayClass ty) := fun _ h => ⟨h, jv_wg h⟩
theorem jv_goodc {w : Cond} (h : w ∈ jv_WS) : GoodIn jv_WS (w :: jv_WS) := fun z hz => (List.mem_cons.mp hz).elim (fun e => by rw [e]; exact jv_good _ h) (jv_good z)
set_option maxRecDepth 100000 in
theorem jv_loc {a d d' r : Nat} (h : a ≤ 45) (h2 : d' < d) (h3 : 64 * d + 250 ≤ r) : 8 + (a + 11) + (64 * d' + 250) ≤ r := by omega
section JVCALLS
variable {p : Program} {l : Launch} {e : Env} {R : Room} {s : State} {m : MethodId} {args : Array Value} {below : List Frame} {meth : Method} {c : Code} {H : Heap} {locs : List Loc} {cells slots : Nat} {Q : State → Prop}
variable {G : jv_G} {o : Option Value} {σ σ' : jv_S} {pc : Nat} {ls : Array Slot} {st0 rest : List Value} {a : Array Value}
theorem jv_go (hr : va_Run p l e R s m args below meth c H locs cells slots 0 0 (F0 m pc ls st0) rest (jv_Q G o σ' a) (jv_A G)) (hS : va_S (jv_A G) s.heap H locs)
    (kk : ∀ (H1 : Heap) (locs1 : List Loc), va_P G.1 vwCl (jv_ws G jv_os σ') H1 → va_S (jv_A G) s.heap H1 locs1 → W p l e R s m args below meth c H1 locs1 cells slots Q (F0 m (pc + 3) ls ((o.map (jv_cv G)).toList ++ rest))) : W p l e R s m args below meth c H locs cells slots Q (F0 m pc ls st0) := by
  intro T hT X
  obtain ⟨v, st₀, t, T', L, h0, X', hL, e1, e2, ⟨hv, hI, hz, hk⟩, st⟩ := hr T hT X
  cases hv
  rw [h0] at hz hk
  obtain ⟨t2, a1, b1⟩ := kk T'.heap (locs ++ L) (by rw [e1]; exact hI)
    ⟨Nat.le_trans hS.1 (by rw [e1]; exact hz), fun q h1 h2 => by rw [e1, hk q (Nat.lt_of_lt_of_le h1 hS.1) h2]; exact hS.2.1 q h1 h2, fun q hq => by
      rcases List.mem_append.mp hq with h | h
      · exact hS.2.2 q h
      · exact hL q h⟩ T' rfl X'
  exact ⟨t2, st t2 a1, b1⟩
theorem jv_goX {E0 : String} (hr : vx_Run p l e R s m args below meth c H locs cells slots 1 6 (F0 m pc ls st0) rest (jv_QF a) (jv_XC G E0 σ') (jv_A G)) (hS : va_S (jv_A G) s.heap H locs)
    (kk : ∀ (ce : Cell) (q : Addr) (H1 : Heap) (locs1 : List Loc), va_P G.1 vwCl (jv_ws G jv_os σ') H1 → va_S (jv_A G) s.heap H1 locs1 → H1[q]? = some ce → ce.vm = .none → s.vm.findClass E0 = some ce.cls → vx_W p l e R s m args below meth c H1 locs1 (cells + 1) (slots + 6) Q (F0 m pc ls rest) q) : W p l e R s m args below meth c H locs cells slots Q (F0 m pc ls st0) := by
  intro T hT X
  rcases hr T hT X with ⟨v, st₀, t, T', L, h0, X', hL, e1, e2, hF, st⟩ | ⟨q, st₀, t, T', L, E, ce, h0, X', hL, e1, e2, ⟨hE, hI, hz, hk⟩, hce, hcv, hcl, st⟩
  · exact hF.elim
  · subst hE
    rw [h0] at hz hk
    obtain ⟨t2, a1, b1⟩ := kk ce q T'.heap (locs ++ L) (by rw [e1]; exact hI)
      ⟨Nat.le_trans hS.1 (by rw [e1]; exact hz), fun q h1 h2 => by rw [e1, hk q (Nat.lt_of_lt_of_le h1 hS.1) h2]; exact hS.2.1 q h1 h2, fun q hq => by
        rcases List.mem_append.mp hq with h | h
        · exact hS.2.2 q h
        · exact hL q h⟩ (by rw [e1]; exact hce) hcv hcl T' rfl X'
    exact ⟨t2, st.trans a1, b1⟩
/-- the callee's start at a call -/
theorem jv_pre {As : List Value} (hX : jv_X G jv_strs s) (hZ : jv_Z G s s.heap) (hD : jv_D G jv_os) (hB : G.2.2.2 ≤ s.heap.size) (hP : va_P G.1 vwCl (jv_ws G jv_os σ) H) (hS : va_S (jv_A G) s.heap H locs) (U : State) (hU : U.heap = H) (hW : s.WarmedH U.vm) :
    va_Pc (As.map (jv_cv G)) (jv_I G jv_os jv_strs σ) (As.map (jv_cv G)).toArray U :=
  ⟨rfl, hX.warm hW, by rw [hU]; exact hZ.warm hW.alike hS, by rw [hU]; exact hP, hD, by rw [hU]; exact Nat.le_trans hB hS.1⟩
theorem jv_blind {As : List Value} : FrameBlind (va_Pc (As.map (jv_cv G)) (jv_I G jv_os jv_strs σ)) := fun _ _ _ _ h => ⟨h.1, h.2.blind⟩
theorem jv_sum {st : List Value} (h : (st.map fun v => v.category).sum ≤ 8) : ((st.map (jv_cv G)).map fun v => v.category).sum ≤ 8 := by
  rw [List.map_map, show (fun v => Value.category v) ∘ jv_cv G = fun v => v.category from funext jv_cv_cat]
  exact h
end JVCALLS
section JVCALLS2
variable {E : jv_E} {own : String} {cc : ByteArray} {nL d d' pc pc' : Nat} {L : List (Option Value)} {st st0 : List Value} {σ σ' : jv_S} {M : jv_M} {As : List Value} {o : Option Value} {index : Nat}
theorem jv_callV {k0 ci : Nat} {fc : List Nat} {n : Nat} {T : u_T} {N : Nat} (hc : jv_Cx E own cc nL d) (hd : decode cc pc = .ok (.invokevirtual index, 3)) (hp : pc + 3 = pc') (hm : jv_MV own index M n) (hM : jv_Cn (jv_g E) (jv_l E) d' M (.ref k0 :: As) σ o σ')
    (hn : As.length = n) (ho : jv_os[k0]? = some (.inl (ci, fc))) (hci : vwCl[ci]? = some (M.1.cls, T, N)) (hdd : d' < d) (hst : As.reverse ++ .ref k0 :: st = st0) (hroom : (st.map fun v => v.category).sum ≤ 8)
    (k : jv_V E pc' L (o.toList ++ st) σ') : jv_V E pc L st0 σ := by
  subst hp; subst hst
  obtain ⟨p, l, e, R, s, m, args, below, meth, c, cells, slots, Q, G⟩ := E
  obtain ⟨hx, hb, hml, hown, hts, hX, hZ, hD, hB, hR1, hR2, hR3, hR4⟩ := hc
  obtain ⟨⟨hm1, hm2, hm3, hm4⟩, hm5, hm6, hm7⟩ := hm
  subst hml
  intro H locs ls hP hS hl
  have hcw : CallW R s args own M.1.cls index M.1 M.2.1 M.2.2.1 M.2.2.2 (.code M.1 M.2.1 M.2.2.1 M.2.2.2 :: jv_WS) (jv_R d' 0 0) 0 0 n := by
    refine cwV (Ts := jv_WS) n hts (goodIn_app (fun w hw => ?_) (jv_goodc hm1)) rfl rfl rfl ⟨rfl, hm3⟩ ⟨?_, ?_⟩
    · simp only [List.mem_cons, List.not_mem_nil, or_false] at hw
      rcases hw with rfl | rfl | rfl | rfl
      · exact jv_good _ hm5
      · exact jv_good _ hm6
      · exact jv_good _ hm7
      · exact jv_good _ hm2
    · show d' + 12 + 1 ≤ R.frames
      omega
    · exact jv_loc hm4 hdd hR2
  refine jv_go (G := G) (o := o) (σ' := σ') (rest := st.map (jv_cv G)) (a := (Value.ref (G.2.1 k0) :: As.map (jv_cv G)).toArray)
    (va_runV (cc := cc) (nL := c.maxLocals) (own := own) (n := n) (As := As.map (jv_cv G)) (b := G.2.1 k0) (Ts := jv_WS) ⟨hx, hb, rfl, hown, hts⟩ hM hcw ⟨jv_blind, va_recv hX.1 hP hci (jv_ws_at ho), fun U hU hW => jv_pre (As := .ref k0 :: As) hX hZ hD hB hP hS U hU hW⟩ rfl (by rw [List.length_map]; exact hn) hl.1 ?_ (lv_room (rest := []) (m := m) (pc := pc) (ls := ls) (jv_sum hroom)) hd ⟨by omega, by omega⟩) hS (fun H1 locs1 hP1 hS1 => ?_)
  · show List.map (jv_cv G) (As.reverse ++ .ref k0 :: st) = _
    rw [List.map_append, List.map_reverse]; rfl
  · have := k H1 locs1 ls hP1 hS1 hl
    rw [List.map_append] at this
    cases o <;> exact this
theorem jv_callS {n : Nat} (hc : jv_Cx E own cc nL d) (hd : decode cc pc = .ok (.invokestatic index, 3)) (hp : pc + 3 = pc') (hm : jv_MS own index M n) (hM : jv_Cn (jv_g E) (jv_l E) d' M As σ o σ')
    (hn : As.length = n) (hdd : d' < d) (hst : As.reverse ++ st = st0) (hroom : (st.map fun v => v.category).sum ≤ 8)
    (k : jv_V E pc' L (o.toList ++ st) σ') : jv_V E pc L st0 σ := by
  subst hp; subst hst
  obtain ⟨p, l, e, R, s, m, args, below, meth, c, cells, slots, Q, G⟩ := E
  obtain ⟨hx, hb, hml, hown, hts, hX, hZ, hD, hB, hR1, hR2, hR3, hR4⟩ := hc
  obtain ⟨⟨hm1, hm2, hm3, hm4⟩, hm5, hm6⟩ := hm
  subst hml
  intro H locs ls hP hS hl
  have hcw : CallB R s args own index M.1 M.2.1 M.2.2.1 M.2.2.2 (.code M.1 M.2.1 M.2.2.1 M.2.2.2 :: jv_WS) (jv_R d' 0 0) 0 0 n ∧ (Cond.static M.1).before args s = true := by
    refine ⟨callB_of (Ts := jv_WS) n hts (jv_goodc hm1) rfl rfl rfl (hts _ hm2) (hts _ hm5) hm3 ⟨?_, ?_⟩, hts _ hm6⟩
    · show d' + 12 + 1 ≤ R.frames
      omega
    · exact jv_loc hm4 hdd hR2
  refine jv_go (G := G) (o := o) (σ' := σ') (rest := st.map (jv_cv G)) (a := (As.map (jv_cv G)).toArray)
    (va_runS (cc := cc) (nL := c.maxLocals) (own := own) (n := n) (As := As.map (jv_cv G)) (Ts := jv_WS) ⟨hx, hb, rfl, hown, hts⟩ hM hcw ⟨jv_blind, fun U hU hW => jv_pre hX hZ hD hB hP hS U hU hW⟩ rfl (by rw [List.length_map]; exact hn) hl.1 ?_ (lv_room (rest := []) (m := m) (pc := pc) (ls := ls) (jv_sum hroom)) hd ⟨by omega, by omega⟩) hS (fun H1 locs1 hP1 hS1 => ?_)
  · show List.map (jv_cv G) (As.reverse ++ st) = _
    rw [List.map_append, List.map_reverse]
  · have := k H1 locs1 ls hP1 hS1 hl
    rw [List.map_append] at this
    cases o <;> exact this
theorem jv_callN {n : Nat} {host : String} (hc : jv_Cx E own cc nL d) (hd : decode cc pc = .ok (.invokestatic index, 3)) (hp : pc + 3 = pc') (hm : jv_MN own index host M n) (hM : jv_Cn (jv_g E) (jv_l E) d' M As σ o σ')
    (hn : As.length = n) (hdd : d' < d) (hst : As.reverse ++ st = st0) (hroom : (st.map fun v => v.category).sum ≤ 8)
    (k : jv_V E pc' L (o.toList ++ st) σ') : jv_V E pc L st0 σ := by
  subst hp; subst hst
  obtain ⟨p, l, e, R, s, m, args, below, meth, c, cells, slots, Q, G⟩ := E
  obtain ⟨hx, hb, hml, hown, hts, hX, hZ, hD, hB, hR1, hR2, hR3, hR4⟩ := hc
  obtain ⟨⟨hm1, hm2, hm3, hm4⟩, hm5, hm6⟩ := hm
  subst hml
  intro H locs ls hP hS hl
  have hcw : va_CN R s args own index M.1 host M.2.1 M.2.2.1 M.2.2.2 (.code M.1 M.2.1 M.2.2.1 M.2.2.2 :: jv_WS) (jv_R d' 0 0) 0 0 n ∧ (Cond.static M.1).before args s = true ∧ True := by
    refine ⟨va_cnB (Ts := jv_WS) n hts (jv_goodc hm1) rfl rfl rfl (hX.2.1 _ hm5 rfl) (hts _ hm2) hm3 ⟨?_, ?_⟩, hts _ hm6, trivial⟩
    · show d' + 12 + 1 ≤ R.frames
      omega
    · exact jv_loc hm4 hdd hR2
  refine jv_go (G := G) (o := o) (σ' := σ') (rest := st.map (jv_cv G)) (a := (As.map (jv_cv G)).toArray)
    (va_runSN (cc := cc) (nL := c.maxLocals) (own := own) (n := n) (As := As.map (jv_cv G)) (Ts := jv_WS) ⟨hx, hb, rfl, hown, hts⟩ hM hcw ⟨jv_blind, fun U hU hW => jv_pre hX hZ hD hB hP hS U hU hW⟩ rfl (by rw [List.length_map]; exact hn) hl.1 ?_ (lv_room (rest := []) (m := m) (pc := pc) (ls := ls) (jv_sum hroom)) hd ⟨by omega, by omega⟩) hS (fun H1 locs1 hP1 hS1 => ?_)
  · show List.map (jv_cv G) (As.reverse ++ st) = _
    rw [List.map_append, List.map_reverse]
  · have := k H1 locs1 ls hP1 hS1 hl
    rw [List.map_append] at this
    cases o <;> exact this
/-- what the frame owes when E0 comes out of it with the store σ' -/
def jv_Th (E : jv_E) (E0 : String) (σ' : jv_S) : Prop := match E with
  | (_, l, _, _, s, _, args, below, meth, c, cells, slots, Q, G) => Q = vx_MQ below jv_QF (jv_XC G E0 σ') args s 1 6 (jv_A G) ∧ (∀ x ∈ c.exceptionTable.toList, False) ∧ meth.locks = false ∧ cells = 0 ∧ slots = 0 ∧ l.stackTraces = false
theorem jv_out {l : Launch} {p : Program} {e : Env} {R : Room} {s : State} {m : MethodId} {args : Array Value} {below : List Frame} {meth : Method} {c : Code} {H : Heap} {locs : List Loc} {G : jv_G} {E0 : String} {σ : jv_S} {pc : Nat} {ls : Array Slot} {rest : List Value} {ce : Cell} {q : Addr}
    (ht : ∀ x ∈ c.exceptionTable.toList, False) (hlocks : meth.locks = false) (hP : va_P G.1 vwCl (jv_ws G jv_os σ) H) (hS : va_S (jv_A G) s.heap H locs) (hcell : H[q]? = some ce) (hv : ce.vm = .none) (hcl : s.vm.findClass E0 = some ce.cls) :
    vx_W p l e R s m args below meth c H locs 1 6 (vx_MQ below jv_QF (jv_XC G E0 σ) args s 1 6 (jv_A G)) (F0 m pc ls rest) q :=
  vx_out (fun x hx => (ht x hx).elim) hlocks hcell hv hcl (fun t ht hA => ⟨rfl, by rw [ht]; exact hP, hS.F ht⟩) (fun z hz => hS.2.2 z hz) (Nat.le_refl _) (Nat.le_refl _)
/-- a call that throws, out of a frame that doesn't catch -/
theorem jv_callVt {k0 ci : Nat} {fc : List Nat} {n : Nat} {T : u_T} {N : Nat} {E0 : String} (hc : jv_Cx E own cc nL d) (hT : jv_Th E E0 σ') (hd : decode cc pc = .ok (.invokevirtual index, 3)) (hm : jv_MV own index M n) (hM : jv_Ct (jv_g E) (jv_l E) d' M (.ref k0 :: As) σ E0 σ') (hR : 1 ≤ E.2.2.2.1.cells ∧ 6 ≤ E.2.2.2.1.slots)
    (hn : As.length = n) (ho : jv_os[k0]? = some (.inl (ci, fc))) (hci : vwCl[ci]? = some (M.1.cls, T, N)) (hdd : d' < d) (hst : As.reverse ++ .ref k0 :: st = st0) (hroom : (st.map fun v => v.category).sum ≤ 8) : jv_V E pc L st0 σ := by
  subst hst
  obtain ⟨p, l, e, R, s, m, args, below, meth, c, cells, slots, Q, G⟩ := E
  obtain ⟨hx, hb, hml, hown, hts, hX, hZ, hD, hB, hR1, hR2, hR3, hR4⟩ := hc
  obtain ⟨⟨hm1, hm2, hm3, hm4⟩, hm5, hm6, hm7⟩ := hm
  obtain ⟨hQ, ht, hlk, hc0, hs0, -⟩ := hT
  subst hml; subst hQ; subst hc0; subst hs0
  intro H locs ls hP hS hl
  have hcw : CallW R s args own M.1.cls index M.1 M.2.1 M.2.2.1 M.2.2.2 (.code M.1 M.2.1 M.2.2.1 M.2.2.2 :: jv_WS) (jv_R d' 1 6) 1 6 n := by
    refine cwV (Ts := jv_WS) n hts (goodIn_app (fun w hw => ?_) (jv_goodc hm1)) rfl rfl rfl ⟨rfl, hm3⟩ ⟨?_, ?_⟩
    · simp only [List.mem_cons, List.not_mem_nil, or_false] at hw
      rcases hw with rfl | rfl | rfl | rfl
      · exact jv_good _ hm5
      · exact jv_good _ hm6
      · exact jv_good _ hm7
      · exact jv_good _ hm2
    · show d' + 12 + 1 ≤ R.frames
      omega
    · exact jv_loc hm4 hdd hR2
  refine jv_goX (G := G) (E0 := E0) (σ' := σ') (rest := st.map (jv_cv G)) (a := (Value.ref (G.2.1 k0) :: As.map (jv_cv G)).toArray)
    (vx_runV (cc := cc) (nL := c.maxLocals) (own := own) (n := n) (As := As.map (jv_cv G)) (b := G.2.1 k0) (Ts := jv_WS) ⟨hx, hb, rfl, hown, hts⟩ hM hcw ⟨jv_blind, va_recv hX.1 hP hci (jv_ws_at ho), fun U hU hW => jv_pre (As := .ref k0 :: As) hX hZ hD hB hP hS U hU hW⟩ rfl (by rw [List.length_map]; exact hn) hl.1 ?_ (lv_room (rest := []) (m := m) (pc := pc) (ls := ls) (jv_sum hroom)) hd ⟨by have := hR.1; show 0 + 1 ≤ R.cells; simpa using this, by have := hR.2; show 0 + 6 ≤ R.slots; simpa using this⟩) hS (fun ce q H1 locs1 hP1 hS1 h1 h2 h3 => jv_out ht hlk hP1 hS1 h1 h2 h3)
  show List.map (jv_cv G) (As.reverse ++ .ref k0 :: st) = _
  rw [List.map_append, List.map_reverse]; rfl
theorem jv_callSt {n : Nat} {E0 : String} (hc : jv_Cx E own cc nL d) (hT : jv_Th E E0 σ') (hd : decode cc pc = .ok (.invokestatic index, 3)) (hm : jv_MS own index M n) (hM : jv_Ct (jv_g E) (jv_l E) d' M As σ E0 σ') (hR : 1 ≤ E.2.2.2.1.cells ∧ 6 ≤ E.2.2.2.1.slots)
    (hn : As.length = n) (hdd : d' < d) (hst : As.reverse ++ st = st0) (hroom : (st.map fun v => v.category).sum ≤ 8) : jv_V E pc L st0 σ := by
  subst hst
  obtain ⟨p, l, e, R, s, m, args, below, meth, c, cells, slots, Q, G⟩ := E
  obtain ⟨hx, hb, hml, hown, hts, hX, hZ, hD, hB, hR1, hR2, hR3, hR4⟩ := hc
  obtain ⟨⟨hm1, hm2, hm3, hm4⟩, hm5, hm6⟩ := hm
  obtain ⟨hQ, ht, hlk, hc0, hs0, -⟩ := hT
  subst hml; subst hQ; subst hc0; subst hs0
  intro H locs ls hP hS hl
  have hcw : CallB R s args own index M.1 M.2.1 M.2.2.1 M.2.2.2 (.code M.1 M.2.1 M.2.2.1 M.2.2.2 :: jv_WS) (jv_R d' 1 6) 1 6 n ∧ (Cond.static M.1).before args s = true := by
    refine ⟨callB_of (Ts := jv_WS) n hts (jv_goodc hm1) rfl rfl rfl (hts _ hm2) (hts _ hm5) hm3 ⟨?_, ?_⟩, hts _ hm6⟩
    · show d' + 12 + 1 ≤ R.frames
      omega
    · exact jv_loc hm4 hdd hR2
  refine jv_goX (G := G) (E0 := E0) (σ' := σ') (rest := st.map (jv_cv G)) (a := (As.map (jv_cv G)).toArray)
    (vx_runS (cc := cc) (nL := c.maxLocals) (own := own) (n := n) (As := As.map (jv_cv G)) (Ts := jv_WS) ⟨hx, hb, rfl, hown, hts⟩ hM hcw ⟨jv_blind, fun U hU hW => jv_pre hX hZ hD hB hP hS U hU hW⟩ rfl (by rw [List.length_map]; exact hn) hl.1 ?_ (lv_room (rest := []) (m := m) (pc := pc) (ls := ls) (jv_sum hroom)) hd ⟨by have := hR.1; show 0 + 1 ≤ R.cells; simpa using this, by have := hR.2; show 0 + 6 ≤ R.slots; simpa using this⟩) hS (fun ce q H1 locs1 hP1 hS1 h1 h2 h3 => jv_out ht hlk hP1 hS1 h1 h2 h3)
  show List.map (jv_cv G) (As.reverse ++ st) = _
  rw [List.map_append, List.map_reverse]
/-- a place where 'throw new E0(text)' stands in the class RX7 -/
def jv_Ts (E0 text : String) (ik is ic : Nat) : Prop := Bundle.fit E0 = true ∧ Cond.classLink RX7 ik E0 ∈ jv_WS ∧ Cond.initialized E0 ∈ jv_WS ∧ (is, text) ∈ jv_strs ∧ (∀ w ∈ vx_atS RX7 ic E0 ["java/lang/RuntimeException", "java/lang/Exception"], w ∈ lw_tbl ∧ (goodWord w || jv_nest w) = true)
theorem jv_nest_tab {w : Cond} (h : jv_nest w = true) : w.onTables = true := by cases w <;> first | rfl | cases h
theorem jv_throw {E0 text : String} {ik is ic : Nat} (hc : jv_Cx E RX7 cc nL d) (hT : jv_Th E E0 σ) (hR : 1 ≤ E.2.2.2.1.cells ∧ 6 ≤ E.2.2.2.1.slots) (ht : jv_Ts E0 text ik is ic)
    (d0 : decode cc pc = .ok (.new ik, 3)) (d3 : decode cc (pc + 3) = .ok (.dup, 1)) (d4 : decode cc (pc + 4) = .ok (.ldc is, 2)) (d6 : decode cc (pc + 6) = .ok (.invokespecial ic, 3)) (d9 : decode cc (pc + 9) = .ok (.athrow, 1))
    (hroom : (st.map fun v => v.category).sum ≤ 8) : jv_V E pc L st σ := by
  obtain ⟨p, l, e, R, s, m, args, below, meth, c, cells, slots, Q, G⟩ := E
  obtain ⟨hx, hb, hml, hown, hts, hX, hZ, hD, hB, hR1, hR2, hR3, hR4⟩ := hc
  obtain ⟨hQ, hnt, hlk, hc0, hs0, hl0⟩ := hT
  obtain ⟨t1, t2, t3, t4, t5⟩ := ht
  subst hml; subst hQ; subst hc0; subst hs0
  intro H locs ls hP hS hl
  obtain ⟨sa, hstr⟩ := hX.2.2.2 _ t4
  have hat : ∀ w ∈ vx_atS RX7 ic E0 ["java/lang/RuntimeException", "java/lang/Exception"], w.before args s = true := by
    intro w hw
    obtain ⟨h1, h2⟩ := t5 w hw
    rcases Bool.or_eq_true _ _ ▸ h2 with g | g
    · exact hts w (jv_w h1 g)
    · exact va_Nw.use (jv_nest_tab g) (hX.2.1 w h1 g)
  have hgood : ∀ w ∈ Cond.classLink RX7 ik E0 :: Cond.initialized E0 :: vx_atS RX7 ic E0 ["java/lang/RuntimeException", "java/lang/Exception"], vx_ot w = true := by
    intro w hw
    rcases List.mem_cons.mp hw with rfl | hw
    · rfl
    · rcases List.mem_cons.mp hw with rfl | hw
      · rfl
      · obtain ⟨h1, h2⟩ := t5 w hw
        unfold vx_ot
        rcases Bool.or_eq_true _ _ ▸ h2 with g | g
        · rw [g, Bool.or_true]
        · rw [jv_nest_tab g, Bool.true_or]
  have h8 := jv_sum (G := G) hroom
  refine vx_throwS (own := RX7) (cls := E0) (text := text) (names := ["java/lang/RuntimeException", "java/lang/Exception"]) (ik := ik) (is := is) (ic := ic) (sa := sa) (A := jv_A G) hx hb hl0 hown t1 (by decide +kernel) (hts _ t2) (hts _ t3) hstr hat hgood hZ.1 hZ.2 hS hl.1 d0 d3 d4 d6 d9 (fun x hx => (hnt x hx).elim) ?_ ?_ ?_ ?_ hlk (fun t hA h1 h2 => ⟨rfl, fun k q hk => ?_, ?_⟩) (fun z hz => hS.2.2 z hz) (Nat.le_refl _) (Nat.le_refl _)
  · show 2 + 3 < R.frames
    omega
  · show _ + (13 * (2 + 1) + 43) ≤ R.locals
    omega
  · have := hR.1
    show 0 + 1 ≤ R.cells
    simpa using this
  · have := hR.2
    show 0 + 6 ≤ R.slots
    simpa using this
  · exact (hP k q hk).kept (h2 q.1 (vx_lt hP hk))
  · exact ⟨Nat.le_trans hS.1 h1, fun q hq hn => by rw [h2 q (Nat.lt_of_lt_of_le hq hS.1)]; exact hS.2.1 q hq hn⟩
/-- the instruction that gives an answer -/
def jv_ri : Option Value → Instr
  | none => .return_
  | some (.long _) => .lreturn
  | some _ => .ireturn
def jv_Rt (E : jv_E) (cc : ByteArray) (o : Option Value) (σ' : jv_S) : Prop := ∀ (pc : Nat) (L : List (Option Value)), decode cc pc = .ok (jv_ri o, 1) → jv_V E pc L o.toList σ'
/-- an answer that fits what the method's name says -/
def jv_ok (ret : Option FieldType) (o : Option Value) : Prop := match o with
  | none => ret = none
  | some (.int v) => ∃ ty, ret = some ty ∧ narrow ty (.int v) = .int v
  | some (.long _) => ret = some .long
  | _ => False
theorem jv_sln (G : jv_G) (As : List Value) : (lg_sl (As.map (jv_cv G))).length = (jv_args As).length := by
  induction As with
  | nil => rfl
  | cons v t ih =>
    simp only [lg_sl, List.map_cons, List.flatMap_cons, List.length_append, jv_cv_cat] at ih ⊢
    by_cases h : v.category = 2
    · simp only [jv_args, if_pos h, List.length_cons, List.length_nil]
      omega
    · simp only [jv_args, if_neg h, List.length_cons, List.length_nil]
      omega
theorem jv_entry {G : jv_G} {As : List Value} {nL : Nat} {L0 : List (Option Value)} (hlen : (jv_args As).length ≤ nL) (hL : jv_args As ++ List.replicate (nL - (jv_args As).length) none = L0) :
    lv_has ((lg_sl (As.map (jv_cv G)) ++ List.replicate (nL - (lg_sl (As.map (jv_cv G))).length) Slot.unset).toArray) nL (jv_lst G 0 L0) := by
  subst hL
  rw [jv_lst_none, jv_args_lst]
  exact lv_entry _ (by rw [jv_sln]; exact hlen)
theorem jv_of {G : jv_G} {l : Launch} {M : jv_M} {L0 : List (Option Value)} (hy : plainName M.1.cls = true) (hlen : (jv_args As).length ≤ M.2.2.1) (hL : jv_args As ++ List.replicate (M.2.2.1 - (jv_args As).length) none = L0) (hok : jv_ok M.2.2.2 o)
    (body : ∀ E : jv_E, jv_l E = l → jv_g E = G → jv_Cx E M.1.cls M.2.1 M.2.2.1 d → jv_Rt E M.2.1 o σ' → jv_V E 0 L0 [] σ) : jv_Cn G l d M As σ o σ' := by
  refine Met.ofW (cc := M.2.1) (maxL := M.2.2.1) (ret := M.2.2.2) hy rfl ?_
  intro p e s m args below meth c s₁ B hml hv
  obtain ⟨rfl, hX, hZ, hP, hD, hB⟩ := hv
  have hx := B.exec
  have hb := B.bytes
  have hr := B.returns
  have hts := atoms_spec (ws := .code M.1 M.2.1 M.2.2.1 M.2.2.2 :: jv_WS) B.pre
  have hown : s.vm.findClass M.1.cls = some m.cls := findClass_of_methodNamed B.named
  have hlocks := B.notSynchronized
  have hcx : jv_Cx (p, l, e, jv_R d 0 0, s, m, (As.map (jv_cv G)).toArray, below, meth, c, 0, 0, MQ below (jv_Q G o σ') (As.map (jv_cv G)).toArray s 0 0 (jv_A G), G) M.1.cls M.2.1 M.2.2.1 d :=
    ⟨hx, hb, hml, hown, fun w hw => hts w (List.mem_cons_of_mem _ hw), hX, hZ, hD, hB, Nat.le_refl _, Nat.le_refl _, Nat.le_refl _, Nat.le_refl _⟩
  have hrt : jv_Rt (p, l, e, jv_R d 0 0, s, m, (As.map (jv_cv G)).toArray, below, meth, c, 0, 0, MQ below (jv_Q G o σ') (As.map (jv_cv G)).toArray s 0 0 (jv_A G), G) M.2.1 o σ' := by
    intro pc L hd H locs ls hP hS hl
    match o, hok, hd with
    | none, hok, hd => exact W.vret hx hb (hr.trans hok) (fun t ht hW => ⟨rfl, by rw [ht]; exact hP, hS.F ht⟩) hS.2.2 hd
    | some (.int v), ⟨ty, h1, h2⟩, hd => exact W.zret hx hb (hr.trans h1) h2 (fun t ht hW => ⟨rfl, by rw [ht]; exact hP, hS.F ht⟩) hS.2.2 hd
    | some (.long v), hok, hd => exact W.lret hx hb (hr.trans hok) (fun t ht hW => ⟨rfl, by rw [ht]; exact hP, hS.F ht⟩) hS.2.2 hd
  have hv := body _ rfl rfl hcx hrt
  rw [lg_entry_eq]
  exact hv s.heap [] _ hP va_S.rf (by show lv_has _ c.maxLocals _; rw [hml]; exact jv_entry hlen hL)
theorem jv_oft {G : jv_G} {l : Launch} {M : jv_M} {L0 : List (Option Value)} {E0 : String} (hl0 : l.stackTraces = false) (hy : plainName M.1.cls = true) (hlen : (jv_args As).length ≤ M.2.2.1) (hL : jv_args As ++ List.replicate (M.2.2.1 - (jv_args As).length) none = L0)
    (body : ∀ E : jv_E, jv_l E = l → jv_g E = G → jv_Cx E M.1.cls M.2.1 M.2.2.1 d → 1 ≤ E.2.2.2.1.cells ∧ 6 ≤ E.2.2.2.1.slots → jv_Th E E0 σ' → jv_V E 0 L0 [] σ) : jv_Ct G l d M As σ E0 σ' := by
  refine vx_ofW (cc := M.2.1) (maxL := M.2.2.1) (ret := M.2.2.2) hy rfl ?_
  intro p e s m args below meth c s₁ B hml hnt hv
  obtain ⟨rfl, hX, hZ, hP, hD, hB⟩ := hv
  have hx := B.exec
  have hb := B.bytes
  have hts := atoms_spec (ws := .code M.1 M.2.1 M.2.2.1 M.2.2.2 :: jv_WS) B.pre
  have hown : s.vm.findClass M.1.cls = some m.cls := findClass_of_methodNamed B.named
  have hcx : jv_Cx (p, l, e, jv_R d 1 6, s, m, (As.map (jv_cv G)).toArray, below, meth, c, 0, 0, vx_MQ below jv_QF (jv_XC G E0 σ') (As.map (jv_cv G)).toArray s 1 6 (jv_A G), G) M.1.cls M.2.1 M.2.2.1 d :=
    ⟨hx, hb, hml, hown, fun w hw => hts w (List.mem_cons_of_mem _ hw), hX, hZ, hD, hB, Nat.le_refl _, Nat.le_refl _, Nat.zero_le _, Nat.zero_le _⟩
  have hv := body _ rfl rfl hcx ⟨Nat.le_refl _, Nat.le_refl _⟩ ⟨rfl, hnt, B.notSynchronized, rfl, rfl, hl0⟩
  rw [lg_entry_eq]
  exact hv s.heap [] _ hP va_S.rf (by show lv_has _ c.maxLocals _; rw [hml]; exact jv_entry hlen hL)
end JVCALLS2
