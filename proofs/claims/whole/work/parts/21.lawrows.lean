/-! ===== rows for the law: catching, the wrappers' contracts, the script ===== -/
/-- the context with one exception more made -/
def jv_E1 (E : jv_E) : jv_E := match E with
  | (p, l, e, R, s, m, args, below, meth, c, cells, slots, Q, G) => (p, l, e, R, s, m, args, below, meth, c, cells + 1, slots + 6, Q, G)
def jv_rc (E : jv_E) (k : Nat) : Prop := match E with
  | (_, _, _, R, _, _, _, _, _, _, cells, slots, _, _) => cells + k ≤ R.cells ∧ slots + 6 * k ≤ R.slots
def jv_Tb (E : jv_E) (hh : List (Nat × Nat × Nat × Nat)) : Prop := match E with
  | (_, _, _, _, _, _, _, _, meth, c, _, _, _, _) => c.exceptionTable.toList = tableOf hh
theorem jv_l1 (E : jv_E) : jv_l (jv_E1 E) = jv_l E := rfl
theorem jv_g1 (E : jv_E) : jv_g (jv_E1 E) = jv_g E := rfl
theorem jv_Cx1 {E : jv_E} {own : String} {cc : ByteArray} {nL d : Nat} (hc : jv_Cx E own cc nL d) (h : jv_rc E 1) : jv_Cx (jv_E1 E) own cc nL d := by
  obtain ⟨p, l, e, R, s, m, args, below, meth, c, cells, slots, Q, G⟩ := E
  obtain ⟨hx, hb, hml, hown, hts, hX, hZ, hD, hB, hR1, hR2, hR3, hR4⟩ := hc
  exact ⟨hx, hb, hml, hown, hts, hX, hZ, hD, hB, hR1, hR2, h.1, h.2⟩
theorem jv_rc1 {E : jv_E} {k : Nat} (h : jv_rc E (k + 1)) : jv_rc (jv_E1 E) k := by
  obtain ⟨p, l, e, R, s, m, args, below, meth, c, cells, slots, Q, G⟩ := E
  obtain ⟨h1, h2⟩ := h
  exact ⟨by omega, by omega⟩
theorem jv_rc0 {E : jv_E} {k : Nat} (h : jv_rc E (k + 1)) : jv_rc E 1 := by
  obtain ⟨p, l, e, R, s, m, args, below, meth, c, cells, slots, Q, G⟩ := E
  obtain ⟨h1, h2⟩ := h
  exact ⟨by omega, by omega⟩
theorem jv_wide {E : jv_E} {pc : Nat} {L : List (Option Value)} {st : List Value} {σ : jv_S} (k : jv_V (jv_E1 E) pc L st σ) : jv_V E pc L st σ := by
  obtain ⟨p, l, e, R, s, m, args, below, meth, c, cells, slots, Q, G⟩ := E
  intro H locs ls hP hS hl
  exact W.widen (Nat.le_add_right _ _) (Nat.le_add_right _ _) (k H locs ls hP hS hl)
/-- the row of the table that takes E0 thrown at pc -/
def jv_Ca (hh : List (Nat × Nat × Nat × Nat)) (pc : Nat) (E0 : String) (hpc : Nat) : Prop := ∃ (pre : List ExceptionTableEntry) (x : ExceptionTableEntry) (suf : List ExceptionTableEntry) (name : String), tableOf hh = pre ++ x :: suf ∧
  (∀ z ∈ pre, covers z pc = false ∨ (z.catchType ≠ 0 ∧ ∃ nm : String, Cond.classLink RL z.catchType nm ∈ jv_WS ∧ (E0, nm) ∈ jv_ncs)) ∧ covers x pc = true ∧ x.catchType ≠ 0 ∧ Cond.classLink RL x.catchType name ∈ jv_WS ∧ Cond.castable E0 name ∈ lw_tbl ∧ x.handlerPc = hpc
section JVLAW
variable {E : jv_E} {cc : ByteArray} {nL d d' pc pc' : Nat} {L : List (Option Value)} {st st0 : List Value} {σ σ' : jv_S} {M : jv_M} {As : List Value} {o : Option Value} {index : Nat}
theorem jv_stored {ls : Array Slot} {nL i : Nat} {lv : List (Nat × Value)} {v : Value} (h : lv_has ls nL ((i, v) :: lv)) : lv_has ls nL [] := ⟨h.1, h.2.1, fun q hq => nomatch hq⟩
theorem jv_callC {k0 ci : Nat} {fc : List Nat} {n : Nat} {T : u_T} {N : Nat} {E0 : String} {hpc : Nat} {hh : List (Nat × Nat × Nat × Nat)} (hc : jv_Cx E RL cc nL d) (hR : jv_rc E 1) (hT : jv_Tb E hh) (hd : decode cc pc = .ok (.invokevirtual index, 3)) (hm : jv_MV RL index M n) (hM : jv_Ct (jv_g E) (jv_l E) d' M (.ref k0 :: As) σ E0 σ')
    (hn : As.length = n) (ho : jv_os[k0]? = some (.inl (ci, fc))) (hci : vwCl[ci]? = some (M.1.cls, T, N)) (hdd : d' < d) (hst : As.reverse ++ .ref k0 :: st = st0) (hroom : (st.map fun v => v.category).sum ≤ 8)
    (ha : jv_Ca hh pc E0 hpc) (i : Nat) (hi : i < nL) (hs : (∃ k4 : Fin 4, (k4 : Nat) = i ∧ decode cc hpc = .ok (.astore_n k4, 1) ∧ pc' = hpc + 1) ∨ (decode cc hpc = .ok (.astore i, 2) ∧ pc' = hpc + 2)) (kk : jv_V (jv_E1 E) pc' [] [] σ') : jv_V E pc L st0 σ := by
  subst hst
  obtain ⟨p, l, e, R, s, m, args, below, meth, c, cells, slots, Q, G⟩ := E
  obtain ⟨hx, hb, hml, hown, hts, hX, hZ, hD, hB, hR1, hR2, hR3, hR4⟩ := hc
  obtain ⟨⟨hm1, hm2, hm3, hm4⟩, hm5, hm6, hm7⟩ := hm
  obtain ⟨pre, x, suf, name, t1, t2, t3, t4, t5, t6, t7⟩ := ha
  subst hml
  intro H locs ls hP hS hl
  have hcw : CallW R s args RL M.1.cls index M.1 M.2.1 M.2.2.1 M.2.2.2 (.code M.1 M.2.1 M.2.2.1 M.2.2.2 :: jv_WS) (jv_R d' 1 6) 1 6 n := by
    refine cwV (Ts := jv_WS) n hts (goodIn_app (fun w hw => ?_) (jv_goodc hm1)) rfl rfl rfl ⟨rfl, hm3⟩ ⟨?_, ?_⟩
    · simp only [List.mem_cons, List.not_mem_nil, or_false] at hw
      rcases hw with rfl | rfl | rfl | rfl
      · exact jv_good _ hm5
      · exact jv_good _ hm6
      · exact jv_good _ hm7
      · exact jv_good _ hm2
    · show d' + 12 + 1 ≤ R.frames
      omega
    · exact jv_loc hm4 hdd hR2
  refine jv_goX (G := G) (E0 := E0) (σ' := σ') (rest := st.map (jv_cv G)) (a := (Value.ref (G.2.1 k0) :: As.map (jv_cv G)).toArray)
    (vx_runV (cc := cc) (nL := c.maxLocals) (own := RL) (n := n) (As := As.map (jv_cv G)) (b := G.2.1 k0) (Ts := jv_WS) ⟨hx, hb, rfl, hown, hts⟩ hM hcw ⟨jv_blind, va_recv hX.1 hP hci (jv_ws_at ho), fun U hU hW => jv_pre (As := .ref k0 :: As) hX hZ hD hB hP hS U hU hW⟩ rfl (by rw [List.length_map]; exact hn) hl.1 ?_ (lv_room (rest := []) (m := m) (pc := pc) (ls := ls) (jv_sum hroom)) hd ⟨hR.1, hR.2⟩) hS (fun ce q H1 locs1 hP1 hS1 h1 h2 h3 => ?_)
  · show List.map (jv_cv G) (As.reverse ++ .ref k0 :: st) = _
    rw [List.map_append, List.map_reverse]; rfl
  · refine vx_catch (own := RL) (name := name) (E := E0) (ce := ce) hown pre x suf (hT.trans t1) (fun z hz => ?_) t3 t4 (hts _ t5) (va_Nw.use rfl (hX.2.1 _ t6 rfl)) h1 h2 h3 ?_
    · rcases t2 z hz with h | ⟨h, nm, g1, g2⟩
      · exact Or.inl h
      · exact Or.inr ⟨h, nm, hts _ g1, hX.2.2.1 (E0, nm) g2⟩
    · rw [t7]
      rcases hs with ⟨k4, e1, e2, rfl⟩ | ⟨e2, rfl⟩
      · exact lv_astore_n hx hb e2 e1 hl hi rfl (fun ls' h' => kk H1 locs1 ls' hP1 hS1 (jv_stored h'))
      · exact lv_astore hx hb e2 hl hi rfl (fun ls' h' => kk H1 locs1 ls' hP1 hS1 (jv_stored h'))
/-- a wrapper: it always answers, and may make one exception -/
def jv_Cw (G : jv_G) (l : Launch) (d : Nat) (M : jv_M) (hh : List (Nat × Nat × Nat × Nat)) (As : List Value) (σ : jv_S) (o : Option Value) (σ' : jv_S) : Prop :=
  Met l M.1 (.codeWith M.1 M.2.1 M.2.2.1 M.2.2.2 hh :: jv_WS) (jv_R d 1 6) (va_Pc (As.map (jv_cv G)) (jv_I G jv_os jv_strs σ)) (jv_Q G o σ') 1 6 (jv_A G)
theorem jv_ofW {G : jv_G} {l : Launch} {L0 : List (Option Value)} {hh : List (Nat × Nat × Nat × Nat)} {v : Int32} (hy : plainName M.1.cls = true) (hlen : (jv_args As).length ≤ M.2.2.1) (hL : jv_args As ++ List.replicate (M.2.2.1 - (jv_args As).length) none = L0) (hok : M.2.2.2 = some .int)
    (body : ∀ E : jv_E, jv_l E = l → jv_g E = G → jv_Cx E M.1.cls M.2.1 M.2.2.1 d → jv_rc E 1 → jv_Tb E hh → jv_Rt E M.2.1 (some (.int v)) σ' → jv_Rt (jv_E1 E) M.2.1 (some (.int v)) σ' → jv_V E 0 L0 [] σ) : jv_Cw G l d M hh As σ (some (.int v)) σ' := by
  refine va_MetW (cc := M.2.1) (maxL := M.2.2.1) (ret := M.2.2.2) hy rfl ?_
  intro p e s m args below meth c s₁ B hml hv
  obtain ⟨rfl, hX, hZ, hP, hD, hB⟩ := hv
  have hx := B.exec
  have hb := B.bytes
  have hr := B.returns
  have hts := atoms_spec (ws := .codeWith M.1 M.2.1 M.2.2.1 M.2.2.2 hh :: jv_WS) B.pre
  have hown : s.vm.findClass M.1.cls = some m.cls := findClass_of_methodNamed B.named
  have hlocks := B.notSynchronized
  have htb : c.exceptionTable.toList = tableOf hh := vx_table (x := M.1) B (hts _ List.mem_cons_self)
  have hcx : jv_Cx (p, l, e, jv_R d 1 6, s, m, (As.map (jv_cv G)).toArray, below, meth, c, 0, 0, MQ below (jv_Q G (some (.int v)) σ') (As.map (jv_cv G)).toArray s 1 6 (jv_A G), G) M.1.cls M.2.1 M.2.2.1 d :=
    ⟨hx, hb, hml, hown, fun w hw => hts w (List.mem_cons_of_mem _ hw), hX, hZ, hD, hB, Nat.le_refl _, Nat.le_refl _, Nat.zero_le _, Nat.zero_le _⟩
  have hrt : jv_Rt (jv_E1 (p, l, e, jv_R d 1 6, s, m, (As.map (jv_cv G)).toArray, below, meth, c, 0, 0, MQ below (jv_Q G (some (.int v)) σ') (As.map (jv_cv G)).toArray s 1 6 (jv_A G), G)) M.2.1 (some (.int v)) σ' := by
    intro pc L hd H locs ls hP hS hl
    exact W.iret (v := v) hx hb (hr.trans hok) (fun t ht hW => ⟨rfl, by rw [ht]; exact hP, hS.F ht⟩) hS.2.2 hd
  have hv := body _ rfl rfl hcx ⟨Nat.le_refl _, Nat.le_refl _⟩ htb (fun pc L hd => jv_wide (hrt pc L hd)) hrt
  rw [lg_entry_eq]
  exact hv s.heap [] _ hP va_S.rf (by show lv_has _ c.maxLocals _; rw [hml]; exact jv_entry hlen hL)
def jv_MW (own : String) (index : Nat) (M : jv_M) (hh : List (Nat × Nat × Nat × Nat)) (n : Nat) : Prop := Cond.codeWith M.1 M.2.1 M.2.2.1 M.2.2.2 hh ∈ jv_WS ∧ Cond.initialized M.1.cls ∈ jv_WS ∧ (M.1.cls ≠ "java/lang/invoke/MethodHandle" ∧ M.1.cls ≠ "java/lang/invoke/VarHandle" ∧ (parseMethodDescriptor M.1.desc).map (fun d => d.parameters.length) = some n) ∧ M.2.2.1 ≤ 45 ∧ Cond.methodLink own index M.1 ∈ jv_WS ∧ Cond.static M.1 ∈ jv_WS
theorem jv_goW {p : Program} {l : Launch} {e : Env} {R : Room} {s : State} {m : MethodId} {args : Array Value} {below : List Frame} {meth : Method} {c : Code} {H : Heap} {locs : List Loc} {cells slots mc ms : Nat} {Q : State → Prop} {G : jv_G} {o : Option Value} {σ' : jv_S} {pc : Nat} {ls : Array Slot} {st0 rest : List Value} {a : Array Value}
    (hr : va_Run p l e R s m args below meth c H locs cells slots mc ms (F0 m pc ls st0) rest (jv_Q G o σ' a) (jv_A G)) (hS : va_S (jv_A G) s.heap H locs)
    (kk : ∀ (H1 : Heap) (locs1 : List Loc), va_P G.1 vwCl (jv_ws G jv_os σ') H1 → va_S (jv_A G) s.heap H1 locs1 → W p l e R s m args below meth c H1 locs1 (cells + mc) (slots + ms) Q (F0 m (pc + 3) ls ((o.map (jv_cv G)).toList ++ rest))) : W p l e R s m args below meth c H locs cells slots Q (F0 m pc ls st0) := by
  intro T hT X
  obtain ⟨v, st₀, t, T', L, h0, X', hL, e1, e2, ⟨hv, hI, hz, hk⟩, st⟩ := hr T hT X
  cases hv
  rw [h0] at hz hk
  obtain ⟨t2, a1, b1⟩ := kk T'.heap (locs ++ L) (by rw [e1]; exact hI)
    ⟨Nat.le_trans hS.1 (by rw [e1]; exact hz), fun q h1 h2 => by rw [e1, hk q (Nat.lt_of_lt_of_le h1 hS.1) h2]; exact hS.2.1 q h1 h2, fun q hq => by
      rcases List.mem_append.mp hq with h | h
      · exact hS.2.2 q h
      · exact hL q h⟩ T' rfl X'
  exact ⟨t2, st t2 a1, b1⟩
theorem jv_callW {n : Nat} {hh : List (Nat × Nat × Nat × Nat)} {v : Int32} (hc : jv_Cx E RL cc nL d) (hR : jv_rc E 1) (hd : decode cc pc = .ok (.invokestatic index, 3)) (hp : pc + 3 = pc') (hm : jv_MW RL index M hh n) (hM : jv_Cw (jv_g E) (jv_l E) d' M hh As σ (some (.int v)) σ')
    (hn : As.length = n) (hdd : d' < d) (hst : As.reverse ++ st = st0) (hroom : (st.map fun v => v.category).sum ≤ 8)
    (k : jv_V (jv_E1 E) pc' L (.int v :: st) σ') : jv_V E pc L st0 σ := by
  subst hp; subst hst
  obtain ⟨p, l, e, R, s, m, args, below, meth, c, cells, slots, Q, G⟩ := E
  obtain ⟨hx, hb, hml, hown, hts, hX, hZ, hD, hB, hR1, hR2, hR3, hR4⟩ := hc
  obtain ⟨hm1, hm2, hm3, hm4, hm5, hm6⟩ := hm
  subst hml
  intro H locs ls hP hS hl
  have hcw : vx_CSW R s args RL index M.1 M.2.1 M.2.2.1 M.2.2.2 hh (.codeWith M.1 M.2.1 M.2.2.1 M.2.2.2 hh :: jv_WS) (jv_R d' 1 6) 1 6 n := by
    refine ⟨⟨rfl, rfl, ?_, jv_loc hm4 hdd hR2, pay_in hts (jv_goodc hm1), List.mem_cons_self⟩, hts _ hm1, hts _ hm2, ⟨hm3.1, hm3.2.1⟩, fun sig h => ?_, hts _ hm5, hts _ hm6⟩
    · show d' + 12 + 1 ≤ R.frames
      omega
    · have h2 := hm3.2.2
      rw [h] at h2
      exact (Option.some.inj h2).symm
  refine jv_goW (G := G) (o := some (.int v)) (σ' := σ') (mc := 1) (ms := 6) (rest := st.map (jv_cv G)) (a := (As.map (jv_cv G)).toArray)
    (vx_runSW (cc := cc) (nL := c.maxLocals) (own := RL) (n := n) (hh := hh) (As := As.map (jv_cv G)) (Ts := jv_WS) ⟨hx, hb, rfl, hown, hts⟩ hM hcw ⟨jv_blind, fun U hU hW => jv_pre hX hZ hD hB hP hS U hU hW⟩ rfl (by rw [List.length_map]; exact hn) hl.1 ?_ (lv_room (rest := []) (m := m) (pc := pc) (ls := ls) (jv_sum hroom)) hd ⟨hR.1, hR.2⟩) hS (fun H1 locs1 hP1 hS1 => k H1 locs1 ls hP1 hS1 hl)
  show List.map (jv_cv G) (As.reverse ++ st) = _
  rw [List.map_append, List.map_reverse]
/-- the script: object 62 -/
def jv_Sc (E : jv_E) (N : Nat) (xs : Nat → Int32) : Prop := match E with
  | (_, _, _, _, s, _, _, _, _, _, _, _, _, G) => va_X (G.2.1 62) N xs s s.heap ∧ G.2.1 62 < s.heap.size ∧ G.2.1 62 < G.2.2.2
theorem jv_Sc1 {E : jv_E} {N : Nat} {xs : Nat → Int32} (h : jv_Sc E N xs) : jv_Sc (jv_E1 E) N xs := by
  obtain ⟨p, l, e, R, s, m, args, below, meth, c, cells, slots, Q, G⟩ := E
  exact h
theorem jv_slen {N : Nat} {xs : Nat → Int32} {own : String} (hc : jv_Cx E own cc nL d) (hs : jv_Sc E N xs) (hd : decode cc pc = .ok (.arraylength, 1)) (hp : pc + 1 = pc') (k : jv_V E pc' L (.int (nI N) :: st) σ) : jv_V E pc L (.ref 62 :: st) σ := by
  subst hp
  obtain ⟨p, l, e, R, s, m, args, below, meth, c, cells, slots, Q, G⟩ := E
  obtain ⟨hx, hb, hml, -⟩ := hc
  intro H locs ls hP hS hl
  exact va_slen hx hb hs.1 hs.2.1 (Nat.not_le.mpr hs.2.2) hS hd (k H locs ls hP hS hl)
theorem jv_sld {N : Nat} {xs : Nat → Int32} {own : String} {i : Int32} (hc : jv_Cx E own cc nL d) (hs : jv_Sc E N xs) (hd : decode cc pc = .ok (.iaload, 1)) (hp : pc + 1 = pc') (hin : vp_in i N) (k : jv_V E pc' L (.int (xs i.toNatClampNeg) :: st) σ) : jv_V E pc L (.int i :: .ref 62 :: st) σ := by
  subst hp
  obtain ⟨p, l, e, R, s, m, args, below, meth, c, cells, slots, Q, G⟩ := E
  obtain ⟨hx, hb, hml, -⟩ := hc
  intro H locs ls hP hS hl
  exact va_sld hx hb hs.1 hs.2.1 (Nat.not_le.mpr hs.2.2) hS hin hd (k H locs ls hP hS hl)
theorem jv_swIn {dflt hi : Int} {offs : Array Int} {len tgt : Nat} {own : String} {x : Int32} {off : Int} (j : Nat) (hc : jv_Cx E own cc nL d) (hd : decode cc pc = .ok (.tableswitch dflt 0 hi offs, len)) (hx : x = nI j) (hj : j < 1000) (h2 : (j : Int) ≤ hi) (ho : offs[j]? = some off) (ht : (pc : Int) + off = (tgt : Int)) (k : jv_V E tgt L st σ) : jv_V E pc L (.int x :: st) σ := by
  subst hx
  obtain ⟨p, l, e, R, s, m, args, below, meth, c, cells, slots, Q, G⟩ := E
  obtain ⟨hx, hb, hml, -⟩ := hc
  intro H locs ls hP hS hl
  have e1 : (nI j).toInt = (j : Int) := nI_toInt (by omega)
  exact lv_tableIn hx hb hd (by rw [e1]; omega) (by rw [e1]; omega) (by rw [e1]; simpa using ho) ht (k H locs ls hP hS hl)
theorem jv_swOut {dflt hi : Int} {offs : Array Int} {len tgt : Nat} {own : String} {x : Int32} (hc : jv_Cx E own cc nL d) (hd : decode cc pc = .ok (.tableswitch dflt 0 hi offs, len)) (hx : x.toInt < 0 ∨ hi < x.toInt) (ht : (pc : Int) + dflt = (tgt : Int)) (k : jv_V E tgt L st σ) : jv_V E pc L (.int x :: st) σ := by
  obtain ⟨p, l, e, R, s, m, args, below, meth, c, cells, slots, Q, G⟩ := E
  obtain ⟨hx0, hb, hml, -⟩ := hc
  intro H locs ls hP hS hl
  exact lv_tableOut hx0 hb hd hx ht (k H locs ls hP hS hl)
end JVLAW
def jv_En : Nat → jv_E → jv_E
  | 0, E => E
  | k + 1, E => jv_En k (jv_E1 E)
def jv_bl (b : Bool) : Int64 := if b then 1 else 0
theorem jv_lf_ex : ∃ n : Nat, n = 600 := ⟨600, rfl⟩
noncomputable def jv_lf : Nat := Classical.choose jv_lf_ex
theorem jv_lf_is : jv_lf = 600 := Classical.choose_spec jv_lf_ex
