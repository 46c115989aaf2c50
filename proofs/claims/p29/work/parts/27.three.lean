/-! ===== the law's own world: two objects and the script ===== -/
def gl_3 (Nn : Nat) (xs : Nat → Int32) : gl_B (jv_S × jv_S) := (gl_2.1, gl_A2, fun G s => gl_2.2.2 G s ∧ va_X (G.2.1 70) Nn xs s s.heap ∧ G.2.1 70 < s.heap.size ∧ ¬ gl_A2 G (G.2.1 70))
/-- the script alone -/
def gl_sc (Nn : Nat) (xs : Nat → Int32) : gl_B Unit := (fun _ _ _ => True, fun _ _ => False, fun G s => jv_X G jv_strs s ∧ va_X (G.2.1 70) Nn xs s s.heap ∧ G.2.1 70 < s.heap.size)
section GLTHREE
variable {Nn : Nat} {xs : Nat → Int32} {G : jv_G}
theorem gl_tL : gl_Sub (gl_3 Nn xs) gl_1 G G (fun τ => τ.1) (fun τ σ => (σ, τ.2)) :=
  ⟨fun s U τ H locs hI hP hS hU hW => gl_sL.1 s U τ H locs hI.1 hP hS hU hW, fun s τ H H1 σ' hI hP h1 hk => gl_sL.2.1 s τ H H1 σ' hI.1 hP h1 hk, gl_sL.2.2.1, gl_sL.2.2.2⟩
theorem gl_tR : gl_Sub (gl_3 Nn xs) gl_1 G (jv_rt G) (fun τ => τ.2) (fun τ σ => (τ.1, σ)) :=
  ⟨fun s U τ H locs hI hP hS hU hW => gl_sR.1 s U τ H locs hI.1 hP hS hU hW, fun s τ H H1 σ' hI hP h1 hk => gl_sR.2.1 s τ H H1 σ' hI.1 hP h1 hk, gl_sR.2.2.1, gl_sR.2.2.2⟩
theorem gl_t2 : gl_Sub (gl_3 Nn xs) gl_2 G G (fun τ => τ) (fun _ τ => τ) :=
  ⟨fun s U τ H locs hI hP hS hU hW => gl_s2.1 s U τ H locs hI.1 hP hS hU hW, fun s τ H H1 σ' hI hP h1 hk => gl_s2.2.1 s τ H H1 σ' hI.1 hP h1 hk, gl_s2.2.2.1, gl_s2.2.2.2⟩
theorem gl_tc : gl_Sub (gl_3 Nn xs) (gl_sc Nn xs) G G (fun _ => ()) (fun τ _ => τ) := by
  refine ⟨fun s U τ H locs hI hP hS hU hW => ?_, fun s τ H H1 σ' hI hP h1 hk => ?_, fun q h => h.elim, fun τ H h => trivial⟩
  · obtain ⟨⟨hX, -⟩, hx, hlt, hna⟩ := hI
    subst hU
    exact ⟨⟨hX.warm hW, (hx.kept (hS.2.1 _ hlt hna)).moved hW.alike, Nat.lt_of_lt_of_le hlt hS.1⟩, trivial⟩
  · obtain ⟨hP1, hP2⟩ := hP
    exact ⟨fun k q hq => (hP1 k q hq).kept (hk q.1 (vx_lt hP1 hq) (fun h => h)), fun k q hq => (hP2 k q hq).kept (hk q.1 (vx_lt hP2 hq) (fun h => h))⟩
theorem gl_bc : gl_Bl (gl_sc Nn xs) := by
  intro G τ U g mk a h
  obtain ⟨⟨h1, h2, h4⟩, h3⟩ := h
  exact ⟨⟨h1.warm (State.WarmedH.refl U), h2.moved (Vm.Alike.refl U.vm), h4⟩, h3⟩
end GLTHREE
section GLSCRIPT
variable {Nn : Nat} {xs : Nat → Int32} {E : jv_E} {own : String} {cc : ByteArray} {nL d N U pc pc' : Nat} {L : List (Option Value)} {st : List Value}
theorem gl_slen (hc : gl_C (gl_sc Nn xs) E own cc nL d N) (hd : decode cc pc = .ok (.arraylength, 1)) (hp : pc + 1 = pc') (k : gl_V (gl_sc Nn xs) E U pc' L (.int (nI Nn) :: st) ()) : gl_V (gl_sc Nn xs) E U pc L (.ref 70 :: st) () := by
  subst hp
  obtain ⟨p, l, e, R, s, m, args, below, meth, c, cells, slots, Q, G⟩ := E
  obtain ⟨hx, hb, hml, hown, hts, ⟨-, hX, hbl⟩, hR⟩ := hc
  intro j hj H locs ls hP hS hl
  exact va_slen hx hb hX hbl (fun h => h) hS hd (k j hj H locs ls hP hS hl)
theorem gl_sld {i : Int32} (hc : gl_C (gl_sc Nn xs) E own cc nL d N) (hd : decode cc pc = .ok (.iaload, 1)) (hp : pc + 1 = pc') (hin : vp_in i Nn) (k : gl_V (gl_sc Nn xs) E U pc' L (.int (xs i.toNatClampNeg) :: st) ()) : gl_V (gl_sc Nn xs) E U pc L (.int i :: .ref 70 :: st) () := by
  subst hp
  obtain ⟨p, l, e, R, s, m, args, below, meth, c, cells, slots, Q, G⟩ := E
  obtain ⟨hx, hb, hml, hown, hts, ⟨-, hX, hbl⟩, hR⟩ := hc
  intro j hj H locs ls hP hS hl
  exact va_sld hx hb hX hbl (fun h => h) hS hin hd (k j hj H locs ls hP hS hl)
end GLSCRIPT
noncomputable def f_L_cell (Nn : Nat) (xs : Nat → Int32) (k : Int32) : Option Int32 := if nI Nn ≤ k then some ((7919 : Int32) * (k + (89 : Int32)) * (k + (2267 : Int32))) else if jv_ck k Nn = true then some (xs k.toNatClampNeg) else none
set_option maxRecDepth 100000 in
set_option maxHeartbeats 4000000 in
theorem ok_L_cell {Nn : Nat} {xs : Nat → Int32} {G : jv_G} {l : Launch} {k v : Int32} (h : f_L_cell Nn xs k = some v) : gl_M0 (gl_sc Nn xs) G l 1 M_L_cell (gl_cd M_L_cell) [.ref 70, .int k] () v () 0 := by
  refine gl_of (L0 := [some (.ref 70), some (.int k)]) (Or.inl rfl) (by decide +kernel) (Nat.le_of_ble_eq_true rfl) rfl (jv_okI _) (fun _ _ h => h.1) (fun E e1 e2 hE hT hret => ?_)
  unfold f_L_cell at h
  refine gl_iload_n (x := k) (pc' := 1) hE dL_cell_0 rfl 1 rfl rfl ?_
  refine gl_aload_n (x := 70) (pc' := 2) hE dL_cell_1 rfl 0 rfl rfl ?_
  refine gl_slen (pc' := 3) hE dL_cell_2 rfl ?_
  refine gl_icmp_ge (x := k) (y := nI Nn) (tgt := 12) (pc' := 6) hE dL_cell_3 (by decide) rfl (fun c => ?_) (fun c => ?_)
  · rw [if_pos c] at h
    cases h
    refine gl_sipush (v := (7919 : Int32)) (pc' := 15) hE dL_cell_12 rfl (by decide) ?_
    refine gl_iload_n (x := k) (pc' := 16) hE dL_cell_15 rfl 1 rfl rfl ?_
    refine gl_bipush (v := (89 : Int32)) (pc' := 18) hE dL_cell_16 rfl (by decide) ?_
    refine gl_iadd (x := k) (y := (89 : Int32)) (pc' := 19) hE dL_cell_18 rfl ?_
    refine gl_imul (x := (7919 : Int32)) (y := (k + (89 : Int32))) (pc' := 20) hE dL_cell_19 rfl ?_
    refine gl_iload_n (x := k) (pc' := 21) hE dL_cell_20 rfl 1 rfl rfl ?_
    refine gl_sipush (v := (2267 : Int32)) (pc' := 24) hE dL_cell_21 rfl (by decide) ?_
    refine gl_iadd (x := k) (y := (2267 : Int32)) (pc' := 25) hE dL_cell_24 rfl ?_
    refine gl_imul (x := ((7919 : Int32) * (k + (89 : Int32)))) (y := (k + (2267 : Int32))) (pc' := 26) hE dL_cell_25 rfl ?_
    exact hret _ _ _ (Nat.le_refl _) dL_cell_26
  · rw [if_neg c] at h
    by_cases c2 : jv_ck k Nn = true
    · rw [if_pos c2] at h
      cases h
      refine gl_aload_n (x := 70) (pc' := 7) hE dL_cell_6 rfl 0 rfl rfl ?_
      refine gl_iload_n (x := k) (pc' := 8) hE dL_cell_7 rfl 1 rfl rfl ?_
      refine gl_sld (pc' := 9) hE dL_cell_8 rfl (jv_ck_in c2) ?_
      refine gl_goto (tgt := 26) hE dL_cell_9 (by decide) ?_
      exact hret _ _ _ (Nat.le_refl _) dL_cell_26
    · rw [if_neg c2] at h
      cases h
