theorem jv_str {A : Array Value} {s : State} {k : Nat} {tx : String} (h : (Cond.stringRef RX7 k tx).before A s = true) : ∃ sa, vk_R RX7 k tx sa s := by
  cases hcur : s.vm.findClass RX7 with
  | none => simp [Cond.before, Cond.holds, Cond.value, hcur] at h
  | some cur =>
    obtain ⟨_, _, _, a, -, -, -, -, -, hev⟩ := Cond.stringRef_spec hcur h
    exact ⟨a, vk_R.of h hev⟩
theorem jv_arr {A : Array Value} {s : State} {ty : FieldType} (h : (Cond.arrayClass ty).before A s = true) : ∃ cA, s.vm.findClass ("[" ++ ty.toString) = some cA ∧ ArrOfT s cA ty := by
  obtain ⟨cA, kA, comp, h1, h2, h3⟩ := Cond.arrayClass_spec h
  exact ⟨cA, h1, fun n z => ⟨fun k h => (by cases h), kA, h2, comp, h3⟩⟩
def lw_G (dC : Nat → ClassId) (dI : Nat → Nat → Nat) (b sz : Nat) (cI cZ cJ : ClassId) : jv_G := ((dC, dI), fun k => if k = 70 then b else sz + k, (cI, cZ, cJ), sz)
theorem lw_X {s : State} {b : Nat} (hts : ∀ w ∈ lw_tbl, w.before #[Value.ref b] s = true) (hgv : (Jvm.Cond.and given_1 narrow_1).before #[Value.ref b] s = true) : ∃ dC dI cI cZ cJ, jv_X (lw_G dC dI b s.heap.size cI cZ cJ) jv_strs s ∧ gl_Z2 (lw_G dC dI b s.heap.size cI cZ cJ) s s.heap := by
  have hWS : ∀ w ∈ jv_WS, w.before #[Value.ref b] s = true := fun w hw => hts w (List.mem_filter.mp hw).1
  have hn := flat_of_before _ hgv
  obtain ⟨c0, i0, h0⟩ := u_known (C := RX0) (T := TX0) (N := 4) (n := 4) hWS inW_X0 (hts _ (jv_tb 203 (by decide +kernel)))
  obtain ⟨c1, i1, h1⟩ := u_known (C := RX1) (T := TX1) (N := 10) (n := 10) hWS inW_X1 (hts _ (jv_tb 166 (by decide +kernel)))
  obtain ⟨c2, i2, h2⟩ := u_known (C := RX2) (T := TX2) (N := 2) (n := 2) hWS inW_X2 (hts _ (jv_tb 64 (by decide +kernel)))
  obtain ⟨c3, i3, h3⟩ := u_known (C := RX3) (T := TX3) (N := 10) (n := 10) hWS inW_X3 (hts _ (jv_tb 26 (by decide +kernel)))
  obtain ⟨c4, i4, h4⟩ := u_known (C := RX4) (T := TX4) (N := 3) (n := 3) hWS inW_X4 (hts _ (jv_tb 114 (by decide +kernel)))
  obtain ⟨c5, i5, h5⟩ := u_known (C := RX5) (T := TX5) (N := 9) (n := 9) hWS inW_X5 (hts _ (jv_tb 77 (by decide +kernel)))
  obtain ⟨c6, i6, h6⟩ := u_known (C := RX6) (T := TX6) (N := 9) (n := 9) hWS inW_X6 (hts _ (jv_tb 132 (by decide +kernel)))
  obtain ⟨c7, i7, h7⟩ := u_known (C := RX7) (T := TX7) (N := 9) (n := 9) hWS inW_X7 (hts _ (jv_tb 18 (by decide +kernel)))
  obtain ⟨cI, a1, a2⟩ := jv_arr (hWS _ lA_int)
  obtain ⟨cJ, d1, d2⟩ := jv_arr (hWS _ lA_long)
  refine ⟨fun k => [c0, c1, c2, c3, c4, c5, c6, c7].getD k 0, fun k => [i0, i1, i2, i3, i4, i5, i6, i7].getD k (fun _ => 0), cI, cI, cJ, ⟨⟨?_, ?_⟩, ?_, ?_, ?_⟩, ?_, ?_⟩
  · intro k q hq
    match k, hq with
    | 0, hq => cases hq; exact h0
    | 1, hq => cases hq; exact h1
    | 2, hq => cases hq; exact h2
    | 3, hq => cases hq; exact h3
    | 4, hq => cases hq; exact h4
    | 5, hq => cases hq; exact h5
    | 6, hq => cases hq; exact h6
    | 7, hq => cases hq; exact h7
    | k + 8, hq => simp at hq
  · intro k q hq
    match k, hq with
    | 0, hq => cases hq; exact ⟨a2, a1⟩
    | 1, hq => cases hq; exact ⟨a2, a1⟩
    | 2, hq => cases hq; exact ⟨d2, d1⟩
    | k + 3, hq => simp [jv_tys] at hq
  · intro w hw hq
    exact va_Nw.of (by cases w <;> first | rfl | cases hq) (hts w hw)
  · intro q hq
    simp only [jv_ncs, List.mem_cons, List.not_mem_nil, or_false] at hq
    rcases hq with rfl | rfl | rfl
    · exact va_Nc.of (hn _ (by decide +kernel))
    · exact va_Nc.of (hn _ (by decide +kernel))
    · exact va_Nc.of (hn _ (by decide +kernel))
  · intro q hq
    simp only [jv_strs, List.mem_cons, List.not_mem_nil, or_false] at hq
    rcases hq with rfl | rfl | rfl | rfl | rfl | rfl | rfl | rfl | rfl | rfl | rfl | rfl | rfl
    · exact jv_str (hts _ (jv_tb 319 (by decide +kernel)))
    · exact jv_str (hts _ (jv_tb 401 (by decide +kernel)))
    · exact jv_str (hts _ (jv_tb 402 (by decide +kernel)))
    · exact jv_str (hts _ (jv_tb 461 (by decide +kernel)))
    · exact jv_str (hts _ (jv_tb 487 (by decide +kernel)))
    · exact jv_str (hts _ (jv_tb 518 (by decide +kernel)))
    · exact jv_str (hts _ (jv_tb 538 (by decide +kernel)))
    · exact jv_str (hts _ (jv_tb 627 (by decide +kernel)))
    · exact jv_str (hts _ (jv_tb 653 (by decide +kernel)))
    · exact jv_str (hts _ (jv_tb 671 (by decide +kernel)))
    · exact jv_str (hts _ (jv_tb 680 (by decide +kernel)))
    · exact jv_str (hts _ (jv_tb 699 (by decide +kernel)))
    · exact jv_str (hts _ (jv_tb 751 (by decide +kernel)))
  · exact vx_Zqof (hts _ (jv_tb 305 (by decide +kernel))) (hts _ (jv_tb 9 (by decide +kernel))) (hn _ (by decide +kernel)) (fun a h h2 => absurd h2.1 (Nat.not_le.mpr h))
  · exact vx_Zqof (hts _ (jv_tb 307 (by decide +kernel))) (hts _ (jv_tb 9 (by decide +kernel))) (hn _ (by decide +kernel)) (fun a h h2 => absurd h2.1 (Nat.not_le.mpr h))
/-- THE PURE CLAIM: the law's function answers true -/
theorem f_ok {N : Nat} {xs : Nat → Int32} (hN : N ≤ 260) : ∃ τ, f_L_law N xs (jv_si jv_z 1 6 (2 : Int32), jv_si jv_z 1 6 (2 : Int32)) = some (true, τ) := by
  exact nx_ok hN
/-! THE CLAIM OUT OF ONE WALK OF THE LAW'S BODY. Your part is whole_start (and what it stands on); all else here is the same for every law, but numbers. -/
def R_law : String := "PathparadeLaw"
def lw_P (b : Addr) (xs : List Int32) (args : Array Value) (s : State) : Prop := args = #[.ref b] ∧ s.IntsAt b xs ∧ xs.length ≤ 260 ∧ (Jvm.Cond.and given_1 narrow_1).before args s = true
def lw_Q (_ : Array Value) (s : State) (o : Outcome) (t : State) : Prop := o = .returned (some (.int 1)) ∧ Framed s o t [] 828486 6616167
def lw_Z (below : List Frame) (a : Array Value) (s : State) : State → Prop := fun t => ∃ o, t.status = .running ∧ Ended t below o ∧ lw_Q a s o t
/-- the law's own end, with 1 on the stack, nothing written that was there before, its room as the claim has it -/
theorem lw_ret {p : Program} {l : Launch} {e : Env} {s : State} {m : MethodId} {below : List Frame} {meth : Method} {c : Code} {b : Nat} (hx : p.tables.exec = Jvm.exec) (hb : c.code = code) (hr : meth.sig.returnType = ret) (hlocks : meth.locks = false) {pc : Nat} {H : Heap} {ls : Array Slot} (hdg : decode code pc = .ok (.ireturn, 1)) : W p l e room_1 s m #[Value.ref b] below meth c H [] 828486 6616167 (lw_Z below #[Value.ref b] s) (F0 m pc ls [.int 1]) := by
  intro T hT X
  obtain ⟨fs, hret, hrun, hended, hW, hframe⟩ := X.leave (v := some (.int 1)) (hlocks := hlocks) (fun h => by rw [hr] at h; cases h)
  have hmeth' : T.vm.method? m = some meth := X.method'
  refine ⟨T.setFrames fs, ?_, .returned (some (.int 1)), hrun, hended, rfl, ⟨_, rfl⟩, hW, hframe⟩
  jvm_step X.here [X.here.top, hx, hb, hdg, hmeth', hr, ret, narrow_b1]
  (try refine ⟨rfl, ?_⟩); (try refine ⟨rfl, ?_⟩)
  first | (intro acts; rw [hret _ acts rfl rfl rfl]) | rw [hret _ _ rfl rfl rfl]
  exact Steps.refl _
/-- what holds at the law's entry: the machine, the code, the tables' words (any of lw_tbl by 'hts w (by decide +kernel)'), the script of L ints xs at the cell b, what the Statement gives of the start (any of its parts by flat_of_before) -/
def lw_At (p : Program) (s : State) (m : MethodId) (meth : Method) (c : Code) (b L : Nat) (xs : Nat → Int32) : Prop :=
  p.tables.exec = Jvm.exec ∧ c.code = code ∧ meth.sig.returnType = ret ∧ c.maxLocals = 9 ∧ s.vm.findClass R_law = some m.cls ∧ (∀ w ∈ lw_tbl, w.before #[Value.ref b] s = true) ∧ va_X b L xs s s.heap ∧ b < s.heap.size ∧ meth.locks = false ∧ (Jvm.Cond.and given_1 narrow_1).before #[Value.ref b] s = true
-- ===== YOUR PART BEGINS =====
set_option maxRecDepth 100000 in
set_option maxHeartbeats 4000000 in
/-- YOUR PART: from the entry, for every script of at most 260 ints, the law comes to its end with true ('hflags': the launch's flags, for a law that throws: no stack traces) -/
theorem whole_start {p : Program} {e : Env} {s : State} {m : MethodId} {below : List Frame} {meth : Method} {c : Code} (l : Launch) (hflags : l.flags = flags0) {b L : Nat} {xs : Nat → Int32} (hL : L ≤ 260) (C0 : lw_At p s m meth c b L xs) : W p l e room_1 s m #[Value.ref b] below meth c s.heap [] 0 0 (lw_Z below #[Value.ref b] s) (entryFrame m ([Value.ref b] : List Value).toArray 9) := by
  obtain ⟨hx, hb, hr, hml, hown, hts, hX, hbl, hlocks, hgv⟩ := id C0
  have hWS : ∀ w ∈ jv_WS, w.before #[Value.ref b] s = true := fun w hw => hts w (List.mem_filter.mp hw).1
  have hl0 : l.stackTraces = false := by simp only [Launch.stackTraces, hflags]; decide +kernel
  obtain ⟨dC, dI, cI, cZ, cJ, hXX, hZ⟩ := lw_X hts hgv
  generalize hG : lw_G dC dI b s.heap.size cI cZ cJ = G at hXX hZ
  have hGb : G.2.1 70 = b := by rw [← hG]; rfl
  have hGs : G.2.2.2 = s.heap.size := by rw [← hG]; rfl
  have hK : jv_K G := by
    intro k hk
    rw [← hG]
    show (if k = 70 then b else s.heap.size + k) = s.heap.size + k
    rw [if_neg (by omega)]
  have hK2 : jv_K (jv_rt G) := by
    intro k hk
    rw [← hG]
    show (if k + 35 = 70 then b else s.heap.size + (k + 35)) = s.heap.size + 35 + k
    rw [if_neg (by omega)]
    omega
  have hD : jv_D G jv_os := jv_K.ap hK (Nat.le_of_ble_eq_true rfl)
  have hD2 : jv_D (jv_rt G) jv_os := jv_K.ap hK2 (Nat.le_of_ble_eq_true rfl)
  have hA2 : ∀ q, q < s.heap.size → ¬ gl_A2 G q := fun q hq h => by have := h.1; omega
  obtain ⟨τ, hτ⟩ := f_ok (xs := xs) hL
  have hE : gl_C (gl_3 L xs) (p, l, e, room_1, s, m, #[Value.ref b], below, meth, c, 70, 5058, lw_Z below #[Value.ref b] s, G) RL cL_law 9 22 11192 :=
    ⟨hx, hb, hml, hown, hWS, ⟨⟨hXX, hZ, hD, hD2⟩, by rw [hGb]; exact hX, by rw [hGb]; exact hbl, by rw [hGb]; exact hA2 b hbl⟩, hXX, Nat.le_of_ble_eq_true rfl, Nat.le_of_ble_eq_true rfl, Nat.le_of_ble_eq_true rfl, Nat.le_of_ble_eq_true rfl⟩
  have hret : gl_Rt (gl_3 L xs) (p, l, e, room_1, s, m, #[Value.ref b], below, meth, c, 70, 5058, lw_Z below #[Value.ref b] s, G) 11192 cL_law (jv_b true) τ := by
    intro U pc L1 hU hd j hj H locs ls hP hS hl
    refine W.widen (k := 828486) (n := 6616167) (by omega) (by omega) ?_
    refine va_forget (fun q hq => by rw [← hGs]; exact (hS.2.2 q hq).1) ?_
    exact lw_ret hx hb hr hlocks hd
  have V := ok_L_law (E := (p, l, e, room_1, s, m, #[Value.ref b], below, meth, c, 70, 5058, lw_Z below #[Value.ref b] s, G)) hl0 hE hτ hret
  have hl := lv_entry ([.ref b]) (n := 9) (Nat.le_of_ble_eq_true rfl)
  rw [lg_entry_eq]
  generalize (lg_sl ([.ref b]) ++ List.replicate (9 - (lg_sl ([.ref b])).length) Slot.unset).toArray = ls at hl ⊢
  have hl : lv_has ls 9 [(0, .ref b)] := hl
  have hb' : c.code = cL_law := hb
  have hlc : lv_has ls c.maxLocals [(0, .ref b)] := by rw [hml]; exact hl
  have hmk1 := @gl_make p l e room_1 s m #[Value.ref b] below meth c s.heap [] 0 0 (lw_Z below #[Value.ref b] s) G (gl_A2 G) 22 0 ls [] [(0, .ref b)] hx hb' hown hWS hXX hZ hK (fun _ => gl_A2L) (Nat.le_of_ble_eq_true rfl) (Nat.le_of_ble_eq_true rfl) (by decide) (Nat.le_of_ble_eq_true rfl) (Nat.le_of_ble_eq_true rfl) dL_law_0 dL_law_3 dL_law_4 (by show 1 + 0 ≤ 8; decide) hGs.symm va_S.rf hlc
  refine hmk1 (fun H1 locs1 hP1 hz1 ho1 hS1 => ?_)
  refine lv_astore_n (i := 1) hx hb' dL_law_7 rfl hlc (by rw [hml]; decide) rfl (fun ls2 hl2 => ?_)
  have hmk2 := @gl_make p l e room_1 s m #[Value.ref b] below meth c H1 locs1 35 2529 (lw_Z below #[Value.ref b] s) (jv_rt G) (gl_A2 G) 22 8 ls2 [] _ hx hb' hown hWS hXX hZ hK2 (fun _ => gl_A2R) (Nat.le_of_ble_eq_true rfl) (Nat.le_of_ble_eq_true rfl) (by decide) (Nat.le_of_ble_eq_true rfl) (Nat.le_of_ble_eq_true rfl) dL_law_8 dL_law_11 dL_law_12 (by show 1 + 0 ≤ 8; decide) hz1 hS1 hl2
  refine hmk2 (fun H2 locs2 hP2 hz2 ho2 hS2 => ?_)
  refine lv_astore_n (i := 2) hx hb' dL_law_15 rfl hl2 (by rw [hml]; decide) rfl (fun ls3 hl3 => ?_)
  have hP1' : va_P G.1 vwCl (jv_ws G jv_os (jv_si jv_z 1 6 (2 : Int32))) H2 := fun k q hq => (hP1 k q hq).kept (ho2 q.1 (vx_lt hP1 hq))
  refine V 0 (Nat.le_refl _) H2 locs2 ls3 ⟨hP1', hP2⟩ hS2 ?_
  have e0 : G.2.1 0 = G.2.2.2 := hK 0 (by decide)
  have e35 : G.2.1 35 = G.2.2.2 + 35 := hK2 0 (by decide)
  show lv_has ls3 c.maxLocals [(0, .ref (G.2.1 70)), (1, .ref (G.2.1 0)), (2, .ref (G.2.1 35))]
  rw [hGb, e0, e35]
  exact ⟨hl3.1, hl3.2.1, fun q hq => hl3.2.2 q (by
    simp only [List.mem_cons, List.not_mem_nil, or_false] at hq
    rcases hq with rfl | rfl | rfl <;> simp [jv_rt, Value.category])⟩
-- ===== YOUR PART ENDS =====
set_option maxHeartbeats 4000000 in
theorem lw_walk (l : Launch) (hflags : l.flags = flags0) (b : Addr) (xs : List Int32) : MetFree l x (headSpec (Jvm.Cond.code x code maxLocals ret :: tables_1) room_1) (lw_P b xs) (fun _ _ _ _ _ => True) lw_Q := by
  refine MetFree.of_bodyS (code := code) (maxLocals := maxLocals) (ret := ret) (by decide) ?_ ?_
  · intro args s m h hn
    obtain ⟨meth, c, h1, h2, h3, h4, h5, h6, -, -⟩ := Cond.code_spec hn (atoms_spec (ws := Jvm.Cond.code x code maxLocals ret :: tables_1) h _ List.mem_cons_self)
    exact ⟨meth, c, h1, h2, h3, h4, h5, h6⟩
  · intro p e s m args below meth c s₁ B hml0 hP _
    obtain ⟨rfl, hx, hbd, hgv⟩ := hP
    obtain ⟨scr, harrAt, hlist, hof, hsmall⟩ := hx
    obtain ⟨hcb, hkn, -, -⟩ := State.arrayAt?_spec harrAt
    have hown : s.vm.findClass R_law = some m.cls := findClass_of_methodNamed B.named
    have hts0 : ∀ c ∈ (Jvm.Cond.code x code maxLocals ret :: tables_1), c.before #[Value.ref b] s = true := atoms_spec (ws := Jvm.Cond.code x code maxLocals ret :: tables_1) B.pre
    have hts : ∀ w ∈ lw_tbl, w.before #[Value.ref b] s = true := k2_hts_sels lw_privs (fun w hw => hts0 w (List.mem_cons_of_mem _ hw)) lw_privs_ok
    have hml : c.maxLocals = 9 := B.maxLocals_eq (hts0 _ List.mem_cons_self)
    have X₀ : Stand p l e room_1 s m #[Value.ref b] below meth c s₁ [] 0 0 := Stand.of_body B
    have hh0 : s₁.heap = s.heap := by rw [B.state]; rfl
    have hsz : scr.slots.size = xs.length := by rw [← Array.length_toList, hlist, List.length_map]
    have hval : ∀ j : Nat, j < xs.length → scr.slots[j]? = some (.int (xs.getD j 0)) := fun j hj => by
      rw [← Array.getElem?_toList, hlist]
      simp [hj]
    have hbl : b < s.heap.size := (Array.getElem?_eq_some_iff.mp hcb).1
    have hX : va_X b xs.length (fun j => xs.getD j 0) s s.heap := ⟨scr, hcb, hof, hkn, hsz, hval⟩
    have K : W p l e room_1 s m #[Value.ref b] below meth c s₁.heap [] 0 0 (lw_Z below #[Value.ref b] s) (entryFrame m ([Value.ref b] : List Value).toArray 9) := by
      rw [hh0]
      exact whole_start l hflags hbd ⟨B.exec, B.bytes, B.returns, hml, hown, hts, hX, hbl, B.notSynchronized, hgv⟩
    obtain ⟨t, a1, o, b1, b2, b3⟩ := K s₁ rfl X₀
    exact ⟨t, o, a1, b1, b2, b3⟩
theorem lw_pre_spec {args : Array Value} {s : State} (h : (Jvm.Cond.and given_1 narrow_1).before args s = true) (hr : rest_1_c.before args s = true) : ∃ (b : Addr) (xs : List Int32), lw_P b xs args s := by
  have hs := flat_of_before _ h
  have hq := flat_of_before _ hr
  have hc : (Cond.count 1).before args s = true := hs _ (by decide +kernel)
  have harr : (Cond.arrayOf (.arg 0) .int).before args s = true := hs _ (by decide +kernel)
  have hle : (Cond.le (.length (.arg 0)) (.int 260)).before args s = true := hs _ (by decide +kernel)
  have hlen : (Cond.isInt (.length (.arg 0))).before args s = true := hq _ (by decide +kernel)
  have hall : (Cond.all (.arg 0) (.isInt (.elem (.arg 0) (.index 0)))).before args s = true := hq _ (by decide +kernel)
  obtain ⟨b, xs, hb, hx⟩ := State.ints_of_pre rfl harr hlen hall
  have hsm : xs.length < 2 ^ 31 := hx.choose_spec.2.2.2
  have hev : (Term.length (.arg 0)).eval args s none [] s = some (.int xs.length.toInt32) := hx.length_eval hb
  have hv := Cond.le_ints hev (show (Term.int 260).eval args s none [] s = some (.int 260) from rfl)
  have hd : xs.length.toInt32 ≤ 260 := by
    simpa [Cond.before, Cond.holds, hv] using hle
  have hN : xs.length ≤ 260 := (Int32.ofNat_le_ofNat hsm (by decide)).mp (show Int32.ofNat xs.length ≤ Int32.ofNat 260 from hd)
  exact ⟨b, xs, Cond.one_arg hc (show args[0]? = some (.ref b) from hb), hx, hN, h⟩
theorem lw_comes (l : Launch) (hflags : l.flags = flags0) : Comes l x (Jvm.Cond.code x code maxLocals ret :: tables_1) room_1 (fun tb e args s => Calls_1 tb e args s ∧ rest_1 tb e args s ∧ Pre_1 tb e args s)
    (fun _ _ args s o t => lw_Q args s o t) := by
  intro p e ha hc hk s m args below hf hfit hheap happ hpre
  obtain ⟨b, xs, hP⟩ := lw_pre_spec hpre.2.2 hpre.2.1
  obtain ⟨k, o, h1, h2, h3, hQ⟩ := lw_walk l hflags b xs p e ha hc hk s m args below hf ((Spec.applies_iff_loose hf).mp happ).1 hP trivial
  exact ⟨k, o, h1, h2, h3, hQ⟩
theorem lw_frame {s t : State} {o : Outcome} {args : Array Value} (h : Framed s o t [] 828486 6616167) :
    Framed s o t (fieldLocs frame_1_writes args s ++ arrayLocs frame_1_arrays args s ++ staticLocs frame_1_statics s) 828486 6616167 := h
theorem lw_limb (L : Cond) (hL : ∀ (args : Array Value) (s t : State), L.after args s (.returned (some (.int 1))) t = true) :
    ArmFor flags0 classFile x code maxLocals ret World_1 tables_1 room_1 Calls_1 rest_1 Pre_1
      (fun tb e a s o t => postC L tb e a s o t ∧ Framed s o t (fieldLocs frame_1_writes a s ++ arrayLocs frame_1_arrays a s ++ staticLocs frame_1_statics s) 828486 6616167) := by
  intro l hflags _ _ p e ha hc hk s m args below hf hfit hheap happ hpre
  obtain ⟨k, o, h1, h2, h3, rfl, hF⟩ := lw_comes l hflags p e ha hc hk s m args below hf hfit hheap happ hpre
  exact ⟨k, _, h1, h2, h3, hL args s _, lw_frame hF⟩
theorem i_vc : Claimed_1_1 ∧ Claimed_1_2 := ⟨lw_limb limb_1_1 (fun args s t => by simp [limb_1_1, Cond.after, Cond.holds, Cond.value]), lw_limb limb_1_2 (fun args s t => Cond.after_iff.mpr (by
  first | (rw [show limb_1_2 = Cond.eq .result (.int 1) from rfl, Cond.eq_ints (x := 1) (y := 1) rfl rfl]; simp; done) | (simp [limb_1_2, Cond.value, Term.eval]; done)))⟩
