theorem lM_L_9 : jv_Nw RL 9 7 [2, 2, 2, 2, 2, 2, 2, 0, 0] := ⟨RX7, TX7, 9, tyX7, rfl, inW_X7, tyX7_ok, jv_w (jv_tb 17 (by decide +kernel)) rfl, jv_w (jv_tb 18 (by decide +kernel)) rfl, jv_w (jv_tb 1 (by decide +kernel)) rfl, rfl, by decide +kernel, by decide +kernel⟩
set_option maxRecDepth 100000 in
set_option maxHeartbeats 4000000 in
/-- an object of the class made in the law's own frame: 'new', 'dup', its constructor -/
theorem gl_make {p : Program} {l : Launch} {e : Env} {R : Room} {s : State} {m : MethodId} {args : Array Value} {below : List Frame} {meth : Method} {c : Code} {H : Heap} {locs : List Loc} {cells slots : Nat} {Q : State → Prop} {G : jv_G} {A : Nat → Prop} {d pc : Nat} {ls : Array Slot} {st : List Value} {lv : List (Nat × Value)}
    (hx : p.tables.exec = Jvm.exec) (hb : c.code = cL_law) (hown : s.vm.findClass RL = some m.cls) (hts : ∀ w ∈ jv_WS, w.before args s = true) (hX : jv_X G jv_strs s) (hZ : vx_Zq Bundle.tN "UNASSIGNED_STACK" Bundle.steD A s s.heap ∧ vx_Zq Bundle.tN "SUPPRESSED_SENTINEL" Bundle.listD A s s.heap) (hK : jv_K G) (hA : ∀ q, jv_A G q → A q)
    (hR1 : d + 12 ≤ R.frames) (hR2 : 64 * d + 250 ≤ R.locals) (hd : 3 < d) (hR3 : cells + 35 ≤ R.cells) (hR4 : slots + 2529 ≤ R.slots) (d0 : decode cL_law pc = .ok (.new 9, 3)) (d3 : decode cL_law (pc + 3) = .ok (.dup, 1)) (d4 : decode cL_law (pc + 4) = .ok (.invokespecial 137, 3)) (hroom : ((Value.ref G.2.2.2 :: st).map fun v => v.category).sum ≤ 8)
    (hH : H.size = G.2.2.2) (hS : va_S A s.heap H locs) (hl : lv_has ls c.maxLocals lv)
    (kk : ∀ (H1 : Heap) (locs1 : List Loc), va_P G.1 vwCl (jv_ws G jv_os (jv_si jv_z 1 6 (2 : Int32))) H1 → H1.size = G.2.2.2 + 35 → (∀ q : Nat, q < H.size → H1[q]? = H[q]?) → va_S A s.heap H1 locs1 → W p l e R s m args below meth c H1 locs1 (cells + 35) (slots + 2529) Q (F0 m (pc + 7) ls (.ref G.2.2.2 :: st))) :
    W p l e R s m args below meth c H locs cells slots Q (F0 m pc ls st) := by
  obtain ⟨C, Tb, Nb, ty, g1, g2, g3, g4, g5, g6, g7, g8, g9⟩ := lM_L_9
  have hKn := hX.1.1 7 _ g1
  refine W.newcK hx hb hown (hts _ g4) (hts _ g5) (hts _ g6) rfl d0 (by omega) (by rw [g7]; show slots + 9 ≤ R.slots; omega) hKn.2.1 rfl fun H1 kC hkC e1 z1 o1 => ?_
  have had : G.2.1 0 = H.size := by rw [hK 0 (by omega), hH]; rfl
  have hP1 : va_P G.1 vwCl (jv_ws G [.inl (7, [2, 2, 2, 2, 2, 2, 2, 0, 0])] jv_z) H1 := by
    intro k q hq
    have hk0 : k = 0 := by
      have := (List.getElem?_eq_some_iff.mp hq).1
      simp [jv_ws] at this
      exact this
    subst hk0
    cases hq
    show va_at _ _ (G.2.1 0, .inr (7, _)) H1
    rw [jv_born [2, 2, 2, 2, 2, 2, 2, 0, 0] rfl rfl g9, had]
    exact ⟨_, g1, (u_born ty hts g2 hKn hkC e1 g3).to g8⟩
  have hS1 : va_S A s.heap H1 locs := ⟨Nat.le_trans hS.1 (by omega), fun x h1 h2 => (o1 x (Nat.lt_of_lt_of_le h1 hS.1)).trans (hS.2.1 x h1 h2), hS.2.2⟩
  refine lv_dup hx hb d3 rfl ?_
  obtain ⟨⟨hm1, hm2, hm3, hm4⟩, hm5, hm6, hm7, hm8⟩ := lI_L_137
  have hcw : CallB R s args RL 137 M_X7_init.1 M_X7_init.2.1 M_X7_init.2.2.1 none (.code M_X7_init.1 M_X7_init.2.1 M_X7_init.2.2.1 M_X7_init.2.2.2 :: jv_WS) (jv_R 3 34 2520) 34 2520 0 ∧ M_X7_init.1.name = "<init>" ∧ (Cond.instanceMethod M_X7_init.1).before args s = true := by
    refine cwI (Ts := jv_WS) 0 hts (jv_goodc hm1) (by rw [hm8]) rfl rfl (hts _ hm2) (hts _ hm5) (hts _ hm6) hm7 hm3 ⟨?_, ?_⟩
    · show 3 + 12 + 1 ≤ R.frames
      omega
    · exact jv_loc hm4 hd hR2
  have hpre : ∀ U : State, U.heap = H1 → s.WarmedH U.vm → va_Pc ([Value.ref 0].map (jv_cv G)) (jv_IK G [.inl (7, [2, 2, 2, 2, 2, 2, 2, 0, 0])] jv_z) ([Value.ref 0].map (jv_cv G)).toArray U := by
    intro U hU hW
    refine ⟨rfl, hX.warm hW, ⟨?_, ?_⟩, by rw [hU]; exact hP1, hK, by rw [hU, z1, hH]; rfl⟩
    · rw [hU]; exact vx_Zq.moved hW.alike ((hZ.1.kept hS1.2.1).narrow hA)
    · rw [hU]; exact vx_Zq.moved hW.alike ((hZ.2.kept hS1.2.1).narrow hA)
  have hM := @ok_X7_init_0 G l
  have hr := va_runI (p := p) (l := l) (e := e) (R := R) (s := s) (m := m) (args := args) (below := below) (meth := meth) (c := c) (H := H1) (locs := locs) (cells := cells + 1) (slots := slots + Nb) (cc := cL_law) (nL := c.maxLocals) (own := RL) (n := 0) (As := []) (b := G.2.1 0) (Ts := jv_WS) (rest := .ref H.size :: st) (g := F0 m (pc + 3 + 1) ls (.ref H.size :: .ref H.size :: st)) ⟨hx, hb, rfl, hown, hts⟩ hM hcw ⟨jk_blind, hpre⟩ rfl rfl hl.1 (by rw [had]; rfl) (lv_room (rest := []) (m := m) (pc := pc + 3 + 1) (ls := ls) (by rw [hH]; exact hroom)) d4 ⟨by omega, by rw [g7]; show slots + 9 + 2520 ≤ R.slots; omega⟩
  intro Ts hT X
  obtain ⟨v, st₀, t, T', L, h0, X', hL, e3, e4, ⟨hv, hI, hz0, hz, hk⟩, stp⟩ := hr Ts hT X
  cases hv
  rw [h0] at hz hk
  have hbase : ∀ q : Nat, q < H.size → ¬ jv_A G q := fun q hq h => by have := h.1; omega
  obtain ⟨t2, a1, b1⟩ := kk T'.heap (locs ++ L) (by rw [e3, ← jk_end]; exact hI) (by rw [e3]; exact hz0) (fun q hq => by rw [e3, hk q (by omega) (hbase q hq), o1 q hq])
    ⟨Nat.le_trans hS1.1 (by rw [e3]; exact hz), fun q h1 h2 => by rw [e3, hk q (Nat.lt_of_lt_of_le h1 hS1.1) (fun h => h2 (hA q h))]; exact hS1.2.1 q h1 h2, fun q hq => by
      rcases List.mem_append.mp hq with h | h
      · exact hS.2.2 q h
      · exact hA _ (hL q h)⟩ T' rfl (by rw [g7] at X'; exact X')
  refine ⟨t2, stp t2 ?_, b1⟩
  rw [hH]
  exact a1
