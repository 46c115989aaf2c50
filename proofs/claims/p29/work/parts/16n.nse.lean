/-! ===== 'throw new NoSuchElementException(text)': its constructor calls its super's by entry 13, where the kit's law of a throw asks entry 7 in every link of the chain; the walk is the kit's and the library's (vx_throwS; BundleOwnThrow.lean), with the first link told apart ===== -/
def jv_N : String := "java/util/NoSuchElementException"
def jv_nb : ByteArray := ⟨#[0x2a, 0x2b, 0xb7, 0x00, 0x0d, 0xb1]⟩
def jv_nsR (ic : Nat) : List Cond := [.methodLink RX7 ic (Bundle.initS jv_N), .instantiable jv_N 6, .castable jv_N jv_N, .selects jv_N Bundle.tFill0 Bundle.tFill0, .selects jv_N Bundle.tFill Bundle.tFill,
  .lays jv_N Bundle.tN "cause" "Ljava/lang/Throwable;", .lays jv_N Bundle.tN "stackTrace" Bundle.steD, .lays jv_N Bundle.tN "suppressedExceptions" Bundle.listD, .lays jv_N Bundle.tN "detailMessage" "Ljava/lang/String;",
  .fieldLink Bundle.tN 198 Bundle.tN "backtrace" "Ljava/lang/Object;", .lays Bundle.tN Bundle.tN "backtrace" "Ljava/lang/Object;", .lays jv_N Bundle.tN "backtrace" "Ljava/lang/Object;"]
/-- all its words but the four that speak of the heap -/
def jv_nsW (ic : Nat) : List Cond := (Bundle.throwableAtoms ++ Bundle.throwableSAtoms).filter vx_no ++ (Bundle.passSAtoms jv_N "java/lang/RuntimeException" 13 jv_nb ++ Bundle.chainSAtoms "java/lang/RuntimeException" ["java/lang/Exception"] ++ jv_nsR ic)
theorem jv_nb0 : decode jv_nb 0 = .ok (.aload_n 0, 1) := by decide +kernel
theorem jv_nb1 : decode jv_nb 1 = .ok (.aload_n 1, 1) := by decide +kernel
theorem jv_nb2 : decode jv_nb 2 = .ok (.invokespecial 13, 3) := by decide +kernel
theorem jv_nb5 : decode jv_nb 5 = .ok (.return_, 1) := by decide +kernel
section JVNSE
variable {p : Program} {l : Launch} {e : Env} {R : Room} {s : State} {m₀ : MethodId} {args : Array Value} {below : List Frame} {meth : Method} {c : Code} {W : State} {locs : List Loc} {cells slots : Nat}
set_option maxHeartbeats 4000000 in
theorem jv_nseThrow (X : Stand p l e R s m₀ args below meth c W locs cells slots) (hexec : p.tables.exec = Jvm.exec) (htr : e.platform.stackTraces = false) {ic : Nat}
    (hown : s.vm.findClass RX7 = some m₀.cls)
    (hA : ∀ a ∈ Bundle.throwableAtoms, a.before args s = true) (hB : ∀ a ∈ Bundle.throwableSAtoms, a.before args s = true) (hP : ∀ a ∈ Bundle.passSAtoms jv_N "java/lang/RuntimeException" 13 jv_nb, a.before args s = true)
    (hC : ∀ a ∈ Bundle.chainSAtoms "java/lang/RuntimeException" ["java/lang/Exception"], a.before args s = true) (hR : ∀ a ∈ jv_nsR ic, a.before args s = true)
    (hU1 : (Cond.isRef (.static Bundle.tN "UNASSIGNED_STACK" Bundle.steD)).before args s = true) (hU2 : (Cond.isRef (.static Bundle.tN "SUPPRESSED_SENTINEL" Bundle.listD)).before args s = true)
    (hlocs : ∀ x ∈ locs, ∀ cell, s.heap[x.base]? = some cell → cell.vm.isStatics = false)
    {a : Addr} {cX : ClassId} {kX : Class} (hfoundX : s.vm.findClass jv_N = some cX) (hkX : s.vm.classes[cX]? = some kX) (hcell : W.heap[a]? = some (freshCell cX kX)) (hnew : s.heap.size ≤ a)
    {msg : Value} (hmsg : msg.isRef = true)
    {g : JFrame} (hg : g.method = m₀) (hsize : g.locals.size = c.maxLocals) (hlocked : g.locked = none) (hentered : g.entered = []) {rest : List Value} (hstack : g.stack = msg :: .ref a :: .ref a :: rest)
    (hd6 : decode c.code g.pc = .ok (.invokespecial ic, 3)) (hd9 : decode c.code (g.pc + 3) = .ok (.athrow, 1)) (hout : ∀ x ∈ c.exceptionTable.toList, covers x (g.pc + 3) = false)
    (hRframes : 5 < R.frames) (hRlocals : 2 * g.monitorRoom + ((Value.ref a :: rest).map fun v => v.category).sum + 81 ≤ R.locals) (hlocks : meth.locks = false) :
    ∃ U : State, Steps p.tables e below (W.setTop g) U ∧ U.status = .running ∧ Ended U below (.threw a) ∧ s.WarmedH U.vm ∧ s.sameButNew ({ U with vm := s.vm } : State) locs cells slots ∧
      ∃ ce, U.heap[a]? = some ce ∧ ce.vm = .none ∧ s.vm.findClass jv_N = some ce.cls := by
  have howns : e.platform.frameOwnsMonitors = true := by rw [X.admits.platform]
  have hfin : e.platform.finalization = false := by rw [X.admits.platform]
  have hpl : e.platform.magicAccessors = ({} : Platform).magicAccessors := by rw [X.admits.platform]
  have r' : ∀ x, x ∈ jv_nsR ic → x.holds args s none s [] = true := fun x hx => hR x hx
  obtain ⟨T, Z0, L, -, Y⟩ := ThrowableC.of_atoms (args := args) howns hfin hpl hA
  obtain ⟨Z, M, LZ, LM, hnZ⟩ := Init0T.ofS_atoms (args := args) hpl L Y hB
  obtain ⟨P0, L0, hP0m, hP0s⟩ := PassC.ofS_atoms (args := args) (s := s) hpl (X := jv_N) (Y := "java/lang/RuntimeException") (by decide +kernel) (by decide) jv_nb0 jv_nb1 jv_nb2 jv_nb5 hP
  obtain ⟨P1, Ps, hlen, L1, hL, hP1m, hlink1, hlink⟩ := Bundle.chainS (args := args) hpl hnZ ["java/lang/Exception"] "java/lang/RuntimeException" (by decide +kernel) (by decide +kernel) hC
  have hfound : s.vm.findClass jv_N = some P0.m.cls := findClass_of_methodNamed hP0m
  cases Option.some.inj (hfoundX.symm.trans hfound)
  obtain ⟨c1, kX', hc1, hk, hord, -, -, hn6⟩ := Cond.instantiable_spec (r' (.instantiable jv_N 6) (by simp [jv_nsR]))
  cases Option.some.inj (hc1.symm.trans hfound)
  cases Option.some.inj (hkX.symm.trans hk)
  have hsel0 : selectMethod e.platform s.vm P0.m.cls T.fill0 = .method T.fill0 := by
    obtain ⟨c2, r2, m2, q1, q2, q3, q4, -⟩ := Cond.selects_spec (r' (.selects jv_N Bundle.tFill0 Bundle.tFill0) (by simp [jv_nsR]))
    cases Option.some.inj (q1.symm.trans hfound)
    cases Option.some.inj (q2.symm.trans (State.methodFound?_of_named Y.fill0 (by decide)))
    cases Option.some.inj (q3.symm.trans Y.fill0)
    rw [Launch.admits_selectMethod X.admits]; exact q4
  have hselF : selectMethod e.platform s.vm P0.m.cls T.fill = .method T.fill := by
    obtain ⟨c2, r2, m2, q1, q2, q3, q4, -⟩ := Cond.selects_spec (r' (.selects jv_N Bundle.tFill Bundle.tFill) (by simp [jv_nsR]))
    cases Option.some.inj (q1.symm.trans hfound)
    cases Option.some.inj (q2.symm.trans (State.methodFound?_of_named Y.fill (by decide)))
    cases Option.some.inj (q3.symm.trans Y.fill)
    rw [Launch.admits_selectMethod X.admits]; exact q4
  obtain ⟨cellS0, hcS0, hiss⟩ := Y.statics
  obtain ⟨u0, hu0⟩ := Cond.staticRefV Y.unassigned L.unassignedStatic L.statics hcS0 hiss hU1
  obtain ⟨sen, hsen⟩ := Cond.staticRefV Y.sentinel L.sentinelStatic L.statics hcS0 hiss hU2
  obtain ⟨ci198, i198, fB, hk198, hg198, ha198, hsB, -, hnB, htB, hffB⟩ := Cond.ownField (t := .object "java/lang/Object") Y.found L.cls (by decide +kernel) (r' (.fieldLink Bundle.tN 198 Bundle.tN "backtrace" "Ljava/lang/Object;") (by simp [jv_nsR])) (r' (.lays Bundle.tN Bundle.tN "backtrace" "Ljava/lang/Object;") (by simp [jv_nsR])) e.platform hpl
  obtain ⟨cellS, hcS', heS, -, hkeep⟩ := X.same.2.2.2.2.2 T.aS cellS0 hcS0
  have hcellS : W.heap[T.aS]? = some cellS := hcS'
  have hout' : ∀ i, (⟨T.aS, i⟩ : Loc) ∉ locs := fun i hmem => by
    have := hlocs _ hmem cellS0 hcS0
    rw [hiss] at this; cases this
  have hknownS : cellS.vm ≠ .unknown := by
    rw [heS]; intro hu
    rw [show cellS0.vm = .unknown from hu] at hiss
    cases hiss
  have hneS : T.aS ≠ a := Nat.ne_of_lt (Nat.lt_of_lt_of_le (Array.getElem?_eq_some_iff.mp hcS0).1 hnew)
  obtain ⟨iM, hffM⟩ := Y.msg
  obtain ⟨tyC, dC, hdC, hdnC⟩ := Cond.laysAt hfound hk Y.cause (r' (.lays jv_N Bundle.tN "cause" "Ljava/lang/Throwable;") (by simp [jv_nsR]))
  obtain ⟨tyS, dS, hdS, hdnS⟩ := Cond.laysAt hfound hk Y.stack (r' (.lays jv_N Bundle.tN "stackTrace" Bundle.steD) (by simp [jv_nsR]))
  obtain ⟨tyP, dP, hdP, hdnP⟩ := Cond.laysAt hfound hk Y.supp (r' (.lays jv_N Bundle.tN "suppressedExceptions" Bundle.listD) (by simp [jv_nsR]))
  obtain ⟨tyM, dM, hdM, hdnM⟩ := Cond.laysAt hfound hk hffM (r' (.lays jv_N Bundle.tN "detailMessage" "Ljava/lang/String;") (by simp [jv_nsR]))
  obtain ⟨tyB, dB, hdB, hdnB⟩ := Cond.laysAt hfound hk hffB (r' (.lays jv_N Bundle.tN "backtrace" "Ljava/lang/Object;") (by simp [jv_nsR]))
  have bC := Cond.laysApart hdB hdC hdnB hdnC (by rw [hnB, Y.causeName]; decide)
  have bS := Cond.laysApart hdB hdS hdnB hdnS (by rw [hnB, Y.stackName]; decide)
  have bP := Cond.laysApart hdB hdP hdnB hdnP (by rw [hnB, Y.suppName]; decide)
  have hskip : SkipFacts T e.platform s (fun u => u) u0 ((preparedCellV T.toThrowableT (freshCell P0.m.cls kX) a u0 sen).withEntry W.cur) :=
    ⟨{ ci198 := ci198, i198 := i198, fBack := fB }, ⟨hk198, hg198, ha198, hsB⟩, by
      have := fresh_default (c := P0.m.cls) tyB
      rw [htB] at this
      simpa [preparedCellV, Cell.setSlot, Cell.withEntry, Array.getElem?_setIfInBounds, bC, bS, bP, bC.symm, bS.symm, bP.symm, defaultValue] using this, fun _ _ => rfl⟩
  obtain ⟨tm, methC, cdC, kC, vm₁, hnC, -, -, -, -, -, -, -, hW₁, st1⟩ := Steps.initColdS (tb := p.tables) (e := e) (below := below) (s := s) (U := W) X.here hexec X.warmed hpl hown (t := Bundle.initS jv_N) rfl rfl (by decide +kernel)
    (hR (.methodLink RX7 ic (Bundle.initS jv_N)) (by simp [jv_nsR])) (hP (.instanceMethod (Bundle.initS jv_N)) (by simp [Bundle.passSAtoms])) (bytes := jv_nb) (maxL := 2) (hP (.code (Bundle.initS jv_N) jv_nb 2 none) (by simp [Bundle.passSAtoms]))
    (f := g) hg (a := a) (msg := msg) (rest := .ref a :: rest) hstack hd6
  cases Option.some.inj (hnC.symm.trans hP0m)
  have X₁ := X.noted hW₁
  obtain ⟨vm₂, X₂, st2⟩ := X₁.ctorMessageOffV hexec (g := { g with stack := .ref a :: rest }) hg hsize T L Z LZ M LM (P0 :: P1 :: Ps)
    (fun P hP => by
      rcases List.mem_cons.mp hP with rfl | hP
      · exact L0
      · rcases List.mem_cons.mp hP with rfl | hP
        · exact L1
        · exact hL P hP) ⟨Option.some.inj (hP0s.symm.trans hP1m), hlink1, hlink⟩ (u0 := u0) (sen := sen) (self := a) hmsg (cell := freshCell P0.m.cls kX) (cellS := cellS)
    hcell (fun _ => by simp) (by simp) rfl rfl hsel0 hselF hcellS hneS hknownS (by rw [hkeep _ (hout' _)]; exact hu0) (by rw [hkeep _ (hout' _)]; exact hsen)
    (Takes.of_laid hk hord tyC (by rw [Y.causeType]; rfl)) (Takes.of_laid hk hord tyS (by rw [Y.stackType]; exact fits_refV_array _ u0)) (Takes.of_laid hk hord tyP (by rw [Y.suppType]; exact fits_refV_object _ sen))
    (Takes.of_laid hk hord tyM (by rw [Y.msgType]; exact fits_refV_object _ ⟨msg, hmsg⟩)) Y.objLocals hskip htr [] hd6
    (by simp only [List.length_cons, hlen, List.length_nil]; omega) (by simp only [List.length_cons, hlen, List.length_nil]; exact hRlocals)
  obtain ⟨hwalk, hrun, hended, hWU, hsame⟩ := X₂.athrowLeaves hexec (g := { g with stack := .ref a :: rest, pc := g.pc + 3 }) hg hlocked hentered hout (a := a) (rest := rest) rfl hd9
  have hlt : a < ((W.setVm vm₁).setVm vm₂).heap.size := (Array.getElem?_eq_some_iff.mp hcell).1
  have hU := heapAt_setCell_self (s := (W.setVm vm₁).setVm vm₂) (plainBareV T.toThrowableT (freshCell P0.m.cls kX) a u0 sen msg) hlt
  refine ⟨_, st1 _ (fun acts => ?_), hrun, hended, hWU, hsame.weaken (fun y hy hlt' => ?_) (Nat.le_refl _) (Nat.le_refl _), _, hU, rfl, hfound⟩
  · rw [doInvoke_state]
    exact st2 _ hwalk
  · rcases List.mem_append.mp hy with h1 | h1
    · exact h1
    · exfalso
      have hb : y.base = a := by
        simp only [List.mem_cons, List.not_mem_nil, or_false] at h1
        rcases h1 with rfl | rfl | rfl | rfl | rfl <;> rfl
      rw [hb] at hlt'
      exact Nat.not_lt.mpr hnew hlt'
end JVNSE
section JVNSE2
variable {p : Program} {l : Launch} {e : Env} {R : Room} {s : State} {m : MethodId} {args : Array Value} {below : List Frame} {meth : Method} {c : Code} {H : Heap} {locs : List Loc} {cells slots : Nat}
variable {mc ms : Nat} {free : Addr → Prop} {ls : Array Slot} {rest : List Value} {Qc : Array Value → State → Outcome → State → Prop} {XC : String → State → State → Prop}
set_option maxHeartbeats 4000000 in
theorem jv_throwW {cc : ByteArray} {pc : Nat} (hexec : p.tables.exec = Jvm.exec) (hb : c.code = cc) (hl : l.stackTraces = false) {text : String} {ik is ic sa : Nat} {A : Nat → Prop}
    (hown : s.vm.findClass RX7 = some m.cls)
    (hk : (Cond.classLink RX7 ik jv_N).before args s = true) (hini : (Cond.initialized jv_N).before args s = true) (hstr : vk_R RX7 is text sa s) (hat : ∀ w ∈ jv_nsW ic, w.before args s = true)
    (hgood : ∀ w ∈ Cond.classLink RX7 ik jv_N :: Cond.initialized jv_N :: jv_nsW ic, vx_ot w = true)
    (hU : vx_Zq Bundle.tN "UNASSIGNED_STACK" Bundle.steD A s s.heap) (hN : vx_Zq Bundle.tN "SUPPRESSED_SENTINEL" Bundle.listD A s s.heap) (hS : va_S A s.heap H locs) (hsize : ls.size = c.maxLocals)
    (d0 : decode cc pc = .ok (.new ik, 3)) (d3 : decode cc (pc + 3) = .ok (.dup, 1)) (d4 : decode cc (pc + 4) = .ok (.ldc is, 2)) (d6 : decode cc (pc + 6) = .ok (.invokespecial ic, 3)) (d9 : decode cc (pc + 9) = .ok (.athrow, 1))
    (hout : ∀ x ∈ c.exceptionTable.toList, covers x (pc + 9) = false)
    (hRframes : 5 < R.frames) (hRlocals : (rest.map fun v => v.category).sum + 82 ≤ R.locals) (hRcells : cells + 1 ≤ R.cells) (hRslots : slots + 6 ≤ R.slots) (hlocks : meth.locks = false)
    (hx : ∀ t : State, s.vm.Alike t.vm → H.size ≤ t.heap.size → (∀ q : Nat, q < H.size → t.heap[q]? = H[q]?) → XC jv_N s t)
    (hf : ∀ z ∈ locs, free z.base) (hc : cells + 1 ≤ mc) (hs : slots + 6 ≤ ms) :
    W p l e R s m args below meth c H locs cells slots (vx_MQ below Qc XC args s mc ms free) (F0 m pc ls rest) := by
  intro T hT X
  have htr : e.platform.stackTraces = false := (show e.platform.stackTraces = l.stackTraces by rw [X.admits.platform]).trans hl
  have Y := vx_rebase X (R' := { frames := R.frames, locals := R.locals, cells := 1, slots := 6 }) (Nat.le_refl _) (Nat.le_refl _) hRcells hRslots
  obtain ⟨s', hA⟩ : ∃ z, z = (T.setVm s.vm).setFrames (.invoking m args :: below) := ⟨_, rfl⟩
  rw [← hA] at Y
  have hvm : s'.vm = s.vm := by rw [hA]; rfl
  have hhp : s'.heap = H := by rw [hA]; exact hT
  have hW0 : s.WarmedH s'.vm := by rw [hvm]; exact State.WarmedH.refl s
  have hat' : ∀ w ∈ jv_nsW ic, w.before args s' = true := fun w hw => vx_ot_at hW0 hvm.symm (hgood w (List.mem_cons_of_mem _ (List.mem_cons_of_mem _ hw))) (hat w hw)
  have hk' : (Cond.classLink RX7 ik jv_N).before args s' = true := vx_ot_at hW0 hvm.symm (hgood _ List.mem_cons_self) hk
  have hini' : (Cond.initialized jv_N).before args s' = true := vx_ot_at hW0 hvm.symm (hgood _ (List.mem_cons_of_mem _ List.mem_cons_self)) hini
  have hU' : vx_Zq Bundle.tN "UNASSIGNED_STACK" Bundle.steD A s' s'.heap := by rw [hhp]; exact vx_Zq.moved hW0.alike (hU.kept hS.2.1)
  have hN' : vx_Zq Bundle.tN "SUPPRESSED_SENTINEL" Bundle.listD A s' s'.heap := by rw [hhp]; exact vx_Zq.moved hW0.alike (hN.kept hS.2.1)
  have hAB : ∀ w ∈ Bundle.throwableAtoms ++ Bundle.throwableSAtoms, w.before args s' = true := vx_own (fun w hw => hat' w (List.mem_append_left _ hw)) (vx_isRefq hU'.1) (vx_isRefq hN'.1) hU'.2.word hN'.2.word
  have hP' : ∀ w ∈ Bundle.passSAtoms jv_N "java/lang/RuntimeException" 13 jv_nb, w.before args s' = true := fun w hw => hat' w (List.mem_append_right _ (List.mem_append_left _ (List.mem_append_left _ hw)))
  have hC' : ∀ w ∈ Bundle.chainSAtoms "java/lang/RuntimeException" ["java/lang/Exception"], w.before args s' = true := fun w hw => hat' w (List.mem_append_right _ (List.mem_append_left _ (List.mem_append_right _ hw)))
  have hR' : ∀ w ∈ jv_nsR ic, w.before args s' = true := fun w hw => hat' w (List.mem_append_right _ (List.mem_append_right _ hw))
  have hown' : s'.vm.findClass RX7 = some m.cls := by rw [hvm]; exact hown
  have hins : (Cond.instantiable jv_N 6).before args s' = true := hR' _ (by simp [jv_nsR])
  obtain ⟨vm₁, cX, kX, hfX, hkX, -, -, X₁, st1⟩ := Y.newCold hexec (own := RX7) (C := jv_N) (index := ik) (n := 6) hown' hk' hins hini'
    (g := F0 m pc ls rest) rfl (by rw [hb]; exact d0) (Nat.le_refl _) (Nat.le_refl _)
  generalize hT1 : (T.setVm vm₁).pushCell { cls := cX, slots := kX.instanceTypes.map defaultValue, vm := .none } = T1 at X₁ st1
  have hcat : (Value.ref T.heap.size).category = 1 := rfl
  have hcellA : T1.heap[T.heap.size]? = some (freshCell cX kX) := by rw [← hT1]; exact State.heap_pushCell_size _ _
  have d3' : decode c.code (pc + 3) = .ok (.dup, 1) := by rw [hb]; exact d3
  have d4' : decode c.code (pc + 4) = .ok (.ldc is, 2) := by rw [hb]; exact d4
  have hstr' : vk_R RX7 is text sa s' := vk_R.warm hW0 hstr
  obtain ⟨U, hsteps, hrun, hend, hW, hsame, ce, hce, hOv, hOc⟩ := jv_nseThrow X₁ hexec htr (ic := ic) hown' (fun w hw => hAB w (List.mem_append_left _ hw)) (fun w hw => hAB w (List.mem_append_right _ hw)) hP' hC' hR' (vx_isRefq hU'.1) (vx_isRefq hN'.1) (fun x hx => nomatch hx) hfX hkX hcellA (by rw [hhp, hT]; exact Nat.le_refl _) (msg := .ref sa) rfl
    (g := { method := m, pc := pc + 6, locals := ls, stack := .ref sa :: .ref T.heap.size :: .ref T.heap.size :: rest, locked := none }) rfl hsize rfl rfl (rest := rest) rfl
    (by rw [hb]; exact d6) (by rw [hb]; exact d9) hout hRframes (by
      simp only [List.map_cons, List.sum_cons, hcat]
      show 2 * 0 + _ + 81 ≤ R.locals
      omega) hlocks
  obtain ⟨f1, f2⟩ := vx_frame hsame
  rw [hhp] at f1 f2
  have hWs : s.WarmedH U.vm := State.WarmedH.trans hW0 hW
  have hcl : s.vm.findClass jv_N = some ce.cls := by
    rw [hvm] at hOc
    exact hOc
  have hall : s.sameButNew ({ U with vm := s.vm } : State) locs mc ms := by
    subst hA
    obtain ⟨e1, e2⟩ := hsame
    rw [State.setFrames_setFrames] at e1
    have h2 : (T.setVm s.vm).sameButNew ({ U with vm := s.vm } : State) [] (0 + 1) (0 + 6) := ⟨e1, e2⟩
    have h3 := X.same.trans h2
    rw [List.append_nil] at h3
    exact h3.mono hc hs
  refine ⟨U, ?_, .threw T.heap.size, hrun, hend, Or.inr ⟨T.heap.size, rfl, jv_N, ce, locs, hx U hWs.alike f1 (fun q hq => f2 q hq (fun z hz => nomatch hz)), hce, hOv, hcl, hWs, hall, hf⟩⟩
  refine st1 _ ?_
  show Steps p.tables e below (T1.setTop { method := m, pc := pc + 3, locals := ls, stack := .ref T.heap.size :: rest, locked := none }) _
  jvm_step X₁.here [X₁.here.top, hexec, d3', Value.category]
  exact X₁.ldcString hexec (own := RX7) (text := text) (index := is) (a := sa) hown' hstr'.1 hstr'.2
    (g := { method := m, pc := pc + 4, locals := ls, stack := .ref T.heap.size :: .ref T.heap.size :: rest, locked := none }) rfl d4' _ hsteps
end JVNSE2
def jv_Tn (text : String) (ik is ic : Nat) : Prop := Cond.classLink RX7 ik jv_N ∈ jv_WS ∧ Cond.initialized jv_N ∈ jv_WS ∧ (is, text) ∈ jv_strs ∧ (∀ w ∈ jv_nsW ic, w ∈ lw_tbl ∧ (goodWord w || jv_nest w) = true)
theorem jv_throwN {E : jv_E} {cc : ByteArray} {nL d pc : Nat} {L : List (Option Value)} {st : List Value} {σ : jv_S} {text : String} {ik is ic : Nat} (hc : jv_Cx E RX7 cc nL d) (hT : jv_Th E "java/util/NoSuchElementException" σ) (hR : 1 ≤ E.2.2.2.1.cells ∧ 6 ≤ E.2.2.2.1.slots) (ht : jv_Tn text ik is ic)
    (d0 : decode cc pc = .ok (.new ik, 3)) (d3 : decode cc (pc + 3) = .ok (.dup, 1)) (d4 : decode cc (pc + 4) = .ok (.ldc is, 2)) (d6 : decode cc (pc + 6) = .ok (.invokespecial ic, 3)) (d9 : decode cc (pc + 9) = .ok (.athrow, 1))
    (hroom : (st.map fun v => v.category).sum ≤ 8) : jv_V E pc L st σ := by
  obtain ⟨p, l, e, R, s, m, args, below, meth, c, cells, slots, Q, G⟩ := E
  obtain ⟨hx, hb, hml, hown, hts, hX, hZ, hD, hB, hR1, hR2, hR3, hR4⟩ := hc
  obtain ⟨hQ, hnt, hlk, hc0, hs0, hl0⟩ := hT
  obtain ⟨t2, t3, t4, t5⟩ := ht
  subst hml; subst hQ; subst hc0; subst hs0
  intro H locs ls hP hS hl
  obtain ⟨sa, hstr⟩ := hX.2.2.2 _ t4
  have hat : ∀ w ∈ jv_nsW ic, w.before args s = true := by
    intro w hw
    obtain ⟨h1, h2⟩ := t5 w hw
    rcases Bool.or_eq_true _ _ ▸ h2 with g | g
    · exact hts w (jv_w h1 g)
    · exact va_Nw.use (jv_nest_tab g) (hX.2.1 w h1 g)
  have hgood : ∀ w ∈ Cond.classLink RX7 ik jv_N :: Cond.initialized jv_N :: jv_nsW ic, vx_ot w = true := by
    intro w hw
    rcases List.mem_cons.mp hw with rfl | hw
    · rfl
    · rcases List.mem_cons.mp hw with rfl | hw
      · rfl
      · obtain ⟨h1, h2⟩ := t5 w hw
        unfold vx_ot
        rcases Bool.or_eq_true _ _ ▸ h2 with g | g
        · rw [g, Bool.or_true]
        · rw [jv_nest_tab g, Bool.true_or]
  have h8 := jv_sum (G := G) hroom
  refine jv_throwW (text := text) (ik := ik) (is := is) (ic := ic) (sa := sa) (A := jv_A G) hx hb hl0 hown (hts _ t2) (hts _ t3) hstr hat hgood hZ.1 hZ.2 hS hl.1 d0 d3 d4 d6 d9 (fun x hx => (hnt x hx).elim) ?_ ?_ ?_ ?_ hlk (fun t hA h1 h2 => ⟨rfl, fun k q hk => ?_, ?_⟩) (fun z hz => hS.2.2 z hz) (Nat.le_refl _) (Nat.le_refl _)
  · omega
  · omega
  · have := hR.1
    show 0 + 1 ≤ R.cells
    simpa using this
  · have := hR.2
    show 0 + 6 ≤ R.slots
    simpa using this
  · exact (hP k q hk).kept (h2 q.1 (vx_lt hP hk))
  · exact ⟨Nat.le_trans hS.1 h1, fun q hq hn => by rw [h2 q (Nat.lt_of_lt_of_le hq hS.1)]; exact hS.2.1 q hq hn⟩
theorem lW_160 : ∀ w ∈ jv_nsW 160, w ∈ lw_tbl ∧ (goodWord w || jv_nest w) = true := by decide +kernel
theorem lT_156_158_160 : jv_Tn "all paths have been drawn" 156 158 160 := ⟨jv_w (jv_tb 618 (by decide +kernel)) rfl, jv_w (jv_tb 16 (by decide +kernel)) rfl, by decide +kernel, lW_160⟩
theorem lT_156_191_160 : jv_Tn "all walks have been drawn" 156 191 160 := ⟨jv_w (jv_tb 618 (by decide +kernel)) rfl, jv_w (jv_tb 16 (by decide +kernel)) rfl, by decide +kernel, lW_160⟩
theorem lT_156_229_160 : jv_Tn "none has been drawn since the start" 156 229 160 := ⟨jv_w (jv_tb 618 (by decide +kernel)) rfl, jv_w (jv_tb 16 (by decide +kernel)) rfl, by decide +kernel, lW_160⟩
theorem lT_156_231_160 : jv_Tn "it has no such edge" 156 231 160 := ⟨jv_w (jv_tb 618 (by decide +kernel)) rfl, jv_w (jv_tb 16 (by decide +kernel)) rfl, by decide +kernel, lW_160⟩
theorem lT_156_234_160 : jv_Tn "there is no such way" 156 234 160 := ⟨jv_w (jv_tb 618 (by decide +kernel)) rfl, jv_w (jv_tb 16 (by decide +kernel)) rfl, by decide +kernel, lW_160⟩
