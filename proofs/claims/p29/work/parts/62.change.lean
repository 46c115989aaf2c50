/-! ===== changes of the network ===== -/
theorem nw_p67 {N : nw_N} {σ τ : jv_S} (h : nw_f (fun a _ => a == 6 || a == 7) σ τ) (hC : nw_C0 N σ) : nw_C0 N τ := h.keepC hC (fun k j hk => by
  simp only [nw_pC, Bool.or_eq_true, Bool.and_eq_true, beq_iff_eq, Bool.or_eq_false_iff, beq_eq_false_iff_ne] at hk ⊢
  omega)
def nx_Nb (N : nw_N) (n' : Nat) : nw_N := ((n', 0), N.2.1, (fun _ => false), (fun _ => false), (fun _ _ => false))
def nx_Na (N : nw_N) (i j l : Nat) : nw_N := ((nw_n N, nw_m N + 1), (nw_u1 (nw_t N) (nw_m N) i, nw_u1 (nw_e N) (nw_m N) j, nw_u1 (nw_l N) (nw_m N) l), nw_ce N, nw_cn N, nw_fb N)
def nx_Nl (N : nw_N) (i l : Nat) : nw_N := ((nw_n N, nw_m N), (nw_t N, nw_e N, nw_u1 (nw_l N) i l), nw_ce N, nw_cn N, nw_fb N)
def nx_Ne (N : nw_N) (i : Nat) : nw_N := (N.1, N.2.1, (fun a => if a = i then !nw_ce N a else nw_ce N a), N.2.2.2)
def nx_Nn (N : nw_N) (i : Nat) : nw_N := (N.1, N.2.1, N.2.2.1, (fun a => if a = i then !nw_cn N a else nw_cn N a), N.2.2.2.2)
section NXCH
variable {N : nw_N} {P K : Option (Nat × Nat × Nat)} {σ σ0 : jv_S}
def nw_N5 (N : nw_N) (g : Nat → Nat → Bool) : nw_N := (N.1, N.2.1, N.2.2.1, N.2.2.2.1, g)
theorem nw_5sl {g : Nat → Nat → Bool} (p : List Nat) : nw_sl (nw_N5 N g) p = nw_sl N p := by
  induction p with
  | nil => rfl
  | cons a p ih => rw [nw_sl, nw_sl, ih]; rfl
theorem nw_5pp {g : Nat → Nat → Bool} {to : Nat} : ∀ (f : Nat) (V : Nat → Bool) (v : Nat), nw_pp (nw_N5 N g) to f V v = nw_pp N to f V v := by
  intro f
  induction f with
  | zero => intro V v; rfl
  | succ f ih =>
    intro V v
    have h1 : nw_br (nw_N5 N g) to f V = nw_br N to f V := funext fun e => by
      unfold nw_br
      rw [ih]
      rfl
    rw [nw_pp_s, nw_pp_s, h1]
    rfl
theorem nw_5ww {g : Nat → Nat → Bool} {to : Nat} : ∀ (p : List Nat) (v r : Nat), nw_ww N to p v r → nw_ww (nw_N5 N g) to p v r := by
  intro p
  induction p with
  | nil => intro v r h; exact h
  | cons e p ih =>
    intro v r h
    obtain ⟨L, r', a1, a2, a3, a4, a5, a6, a7, a8⟩ := h
    exact ⟨L, r', a1, a2, a3, a4, a5, a6, a7, ih _ _ a8⟩
def nx_Nt (N : nw_N) (i j : Nat) : nw_N := nw_N5 N (fun a b => if a = i ∧ b = j then !nw_fb N a b else nw_fb N a b)
theorem nx_chg {N' : nw_N} {ρ : jv_S} (h1 : nw_W N') (h2 : nw_C0 N' ρ) (h3 : nw_C1 N' ρ) (h5 : ∀ v, v < 10 → ρ.1 27 (24 + v) = nI 0) (h6 : ρ.1 0 7 = 0) (h7 : ρ.1 0 8 = 0) : nx_H (N', none, none) ρ := ⟨⟨h1, h2, h3, h5⟩, h6, h7⟩
theorem nx_inj {i j : Nat} {x : Int32} (hi : i < 2 ^ 31) (hj : j < 2 ^ 31) (h : x = nI i) (h' : x = nI j) : i = j := (nI_eq hi hj).mp (h.symm.trans h')
def nx_Rb (N : nw_N) (P K : Option (Nat × Nat × Nat)) (x a : Int32) (p' : nx_Pic) : Prop := (∃ n', 2 ≤ n' ∧ n' ≤ 10 ∧ x = nI n' ∧ a = (1 : Int32) ∧ p' = (nx_Nb N n', none, none)) ∨ (¬ ((2 : Int32) ≤ x ∧ x ≤ (10 : Int32)) ∧ a = (-99999 : Int32) ∧ p' = (N, P, K))
theorem nx_S0 (x y : Int32) (h0 : nx_H (N, P, K) σ0) : ∃ a p', nx_Rb N P K x a p' ∧ nx_D (N, P, K) (fun σ => f_L_starts σ (0 : Int32) x y) a p' := by
  refine nx_det (fun a b p1 p2 h h' => ?_) (fun σ h => ?_) h0
  · rcases h with ⟨i, h1, h2, h3, h4, h5⟩ | ⟨h3, h4, h5⟩ <;> rcases h' with ⟨i', g1, g2, g3, g4, g5⟩ | ⟨g3, g4, g5⟩
    · have := nx_inj (by omega) (by omega) h3 g3
      subst this
      exact ⟨h4.trans g4.symm, h5.trans g5.symm⟩
    · rw [h3] at g3; exact absurd (nx_in (lo := 2) (hi := 10) h1 h2 (by omega)) g3
    · rw [g3] at h3; exact absurd (nx_in (lo := 2) (hi := 10) g1 g2 (by omega)) h3
    · exact ⟨h4.trans g4.symm, h5.trans g5.symm⟩
  · rcases nx_range (σ := σ) x (2 : Int32) (10 : Int32) with ⟨r1, r2, r3⟩ | ⟨r1, r3⟩
    · obtain ⟨n', rfl, hl1, hl2⟩ := nx_rng (lo := 2) (hi := 10) (by omega) (by omega) r1 r2
      have hW' : nw_W (nx_Nb N n') := ⟨hl1, hl2, Nat.zero_le _, fun e he => absurd he (Nat.not_lt_zero _), fun _ _ => rfl⟩
      have hC' : nw_C0 (nx_Nb N n') (jv_fl (jv_si (jv_si (jv_si (jv_si σ 1 6 (nI n')) 1 7 (0 : Int32)) 1 8 (0 : Int32)) 1 9 (0 : Int32)) 5 24 (0 : Int32)) := by
        refine ⟨?_, ?_, fun e he => absurd he (Nat.not_lt_zero _), fun e he => ?_, fun v hv => ?_, fun e he f hf => ?_⟩
        · rw [nw_fln (by decide), nw_gj (by decide), nw_gj (by decide), nw_gj (by decide), nw_gs]; rfl
        · rw [nw_fln (by decide), nw_gj (by decide), nw_gj (by decide), nw_gs]; rfl
        · rw [nw_fln (by decide), nw_gs, b_0]; rfl
        · rw [nw_fln (by decide), nw_gj (by decide), nw_gs, b_0]; rfl
        · rw [nw_fl, if_pos he, b_0]; rfl
      obtain ⟨τ, g1, g2, g3⟩ := nw_list hW' hC'
      refine ⟨_, _, jv_si (jv_si τ 0 7 (0 : Int32)) 0 8 (0 : Int32), Or.inl ⟨n', hl1, hl2, rfl, rfl, rfl⟩, ?_, nx_chg hW' ((nw_p67 g2 hC').keep (fun k j hk' => ?_)) (g3.keep (by rw [nw_gn (by decide), nw_gn (by decide)]) (by rw [nw_gn (by decide), nw_gn (by decide)])) (fun v hv => ?_) (by simp [nw_g]) (by simp [nw_g])⟩
      · show f_L_starts σ (0 : Int32) (nI n') y = _
        unfold f_L_starts f_L_begin f_X7_begin f_X3_clear
        rw [r3, nx_xeO, g1]
        rfl
      · simp only [nw_pC, Bool.or_eq_true, Bool.and_eq_true, beq_iff_eq] at hk'
        rw [nw_gn (by omega), nw_gn (by omega)]
      · rw [nw_gn (by decide), nw_gn (by decide), (g2.lng (k := 27) (fun _ => rfl)).1, nw_fln (by decide), nw_gn (by decide), nw_gn (by decide), nw_gn (by decide), nw_gn (by decide), h.1.2.2.2 v hv]
    · refine ⟨_, _, σ, Or.inr ⟨r1, rfl, rfl⟩, ?_, h⟩
      show f_L_starts σ (0 : Int32) x y = _
      unfold f_L_starts f_L_begin f_X7_begin
      rw [r3]
      rfl
def nx_Ra (N : nw_N) (P K : Option (Nat × Nat × Nat)) (x y z a : Int32) (p' : nx_Pic) : Prop := (∃ i j l, i < nw_n N ∧ j < nw_n N ∧ i ≠ j ∧ 1 ≤ l ∧ l ≤ 1000 ∧ x = nI i ∧ y = nI j ∧ z = nI l ∧ nw_m N < 24 ∧ a = nI (nw_m N) ∧ p' = (nx_Na N i j l, none, none)) ∨ (((nx_nn (nw_n N) x ∨ nx_nn (nw_n N) y ∨ x = y) ∨ ¬ ((1 : Int32) ≤ z ∧ z ≤ (1000 : Int32)) ∨ nw_m N = 24) ∧ a = (-99999 : Int32) ∧ p' = (N, P, K))
theorem nx_Ra_no {x y z : Int32} {i j l : Nat} (hn : nw_n N ≤ 10) (h1 : i < nw_n N) (h2 : j < nw_n N) (h3 : i ≠ j) (h4 : 1 ≤ l) (h5 : l ≤ 1000) (h6 : x = nI i) (h7 : y = nI j) (h8 : z = nI l) (h9 : nw_m N < 24) (g : (nx_nn (nw_n N) x ∨ nx_nn (nw_n N) y ∨ x = y) ∨ ¬ ((1 : Int32) ≤ z ∧ z ≤ (1000 : Int32)) ∨ nw_m N = 24) : False := by
  rcases g with g | g | g
  · exact nx_two_no hn h1 h2 h3 h6 h7 g
  · rw [h8] at g; exact g (nx_in (lo := 1) (hi := 1000) h4 h5 (by omega))
  · omega
theorem nx_S5 (x y z : Int32) (h0 : nx_H (N, P, K) σ0) : ∃ a p', nx_Ra N P K x y z a p' ∧ nx_D (N, P, K) (fun σ => f_L_add σ x y z) a p' := by
  have hn := h0.1.1.n
  have hn : 2 ≤ nw_n N ∧ nw_n N ≤ 10 ∧ nw_m N ≤ 24 := hn
  refine nx_det (fun a b p1 p2 h h' => ?_) (fun σ h => ?_) h0
  · rcases h with ⟨i, j, l, h1, h2, h3, h4, h5, h6, h7, h8, h9, h10, h11⟩ | ⟨h1, h10, h11⟩ <;> rcases h' with ⟨i', j', l', g1, g2, g3, g4, g5, g6, g7, g8, g9, g10, g11⟩ | ⟨g1, g10, g11⟩
    · have e1 := nx_inj (by omega) (by omega) h6 g6
      have e2 := nx_inj (by omega) (by omega) h7 g7
      have e3 := nx_inj (by omega) (by omega) h8 g8
      subst e1; subst e2; subst e3
      exact ⟨h10.trans g10.symm, h11.trans g11.symm⟩
    · exact (nx_Ra_no hn.2.1 h1 h2 h3 h4 h5 h6 h7 h8 h9 g1).elim
    · exact (nx_Ra_no hn.2.1 g1 g2 g3 g4 g5 g6 g7 g8 g9 h1).elim
    · exact ⟨h10.trans g10.symm, h11.trans g11.symm⟩
  · obtain ⟨hW, hC, hD, h27⟩ := id h.1
    have hW : nw_W N := hW
    have hC : nw_C0 N σ := hC
    rcases nx_two h.1 x y with ⟨i, j, hi, hj, hne, rfl, rfl, e1⟩ | ⟨e0, e1⟩
    · rcases nx_range (σ := σ) z (1 : Int32) (1000 : Int32) with ⟨r1, r2, r3⟩ | ⟨r1, r3⟩
      · obtain ⟨l, rfl, hl1, hl2⟩ := nx_rng (lo := 1) (hi := 1000) (by omega) (by omega) r1 r2
        by_cases cm : nw_m N < 24
        · have hi : i < nw_n N := hi
          have hj : j < nw_n N := hj
          have et : ∀ e, nw_t (nx_Na N i j l) e = nw_u1 (nw_t N) (nw_m N) i e := fun _ => rfl
          have ee : ∀ e, nw_e (nx_Na N i j l) e = nw_u1 (nw_e N) (nw_m N) j e := fun _ => rfl
          have el : ∀ e, nw_l (nx_Na N i j l) e = nw_u1 (nw_l N) (nw_m N) l e := fun _ => rfl
          have em : nw_m (nx_Na N i j l) = nw_m N + 1 := rfl
          have hW' : nw_W (nx_Na N i j l) := ⟨hn.1, hn.2.1, cm, fun e he => by
            rw [et, ee, el]
            show _ < nw_n N ∧ _ < nw_n N ∧ _
            by_cases c1 : e = nw_m N
            · rw [c1, nw_u1s, nw_u1s, nw_u1s]; exact ⟨hi, hj, hne, hl1, hl2⟩
            · rw [nw_u1n c1, nw_u1n c1, nw_u1n c1]
              have := hW.e (show e < nw_m N by rw [em] at he; omega)
              omega, fun e he => hW.2.2.2.2 e (by rw [em] at he; omega)⟩
          have hC' : nw_C0 (nx_Na N i j l) (jv_si (jv_si (jv_si (jv_si (jv_si (jv_si σ 0 7 (0 : Int32)) 0 8 (0 : Int32)) 2 (nw_m N) (nI i)) 3 (nw_m N) (nI j)) 4 (nw_m N) (nI l)) 1 7 (nI (nw_m N + 1))) := by
            refine ⟨?_, ?_, fun e he => ⟨?_, ?_, ?_⟩, fun e he => ?_, fun v hv => ?_, fun e he f hf => ?_⟩
            · rw [nw_gj (by decide), nw_gn (by decide), nw_gn (by decide), nw_gn (by decide), nw_gn (by decide), nw_gn (by decide), hC.1]; rfl
            · rw [nw_gs]; rfl
            · rw [nw_gn (by decide), nw_gn (by decide), nw_gn (by decide), et]
              by_cases c1 : e = nw_m N
              · rw [c1, nw_gs, nw_u1s]
              · rw [nw_gj c1, nw_u1n c1, nw_gn (by decide), nw_gn (by decide), (hC.2.2.1 e (by rw [em] at he; omega)).1]
            · rw [nw_gn (by decide), nw_gn (by decide), ee]
              by_cases c1 : e = nw_m N
              · rw [c1, nw_gs, nw_u1s]
              · rw [nw_gj c1, nw_u1n c1, nw_gn (by decide), nw_gn (by decide), nw_gn (by decide), (hC.2.2.1 e (by rw [em] at he; omega)).2.1]
            · rw [nw_gn (by decide), el]
              by_cases c1 : e = nw_m N
              · rw [c1, nw_gs, nw_u1s]
              · rw [nw_gj c1, nw_u1n c1, nw_gn (by decide), nw_gn (by decide), nw_gn (by decide), nw_gn (by decide), (hC.2.2.1 e (by rw [em] at he; omega)).2.2]
            · rw [nw_gj (by decide), nw_gn (by decide), nw_gn (by decide), nw_gn (by decide), nw_gn (by decide), nw_gn (by decide), hC.2.2.2.1 e he]; rfl
            · rw [nw_gj (by decide), nw_gn (by decide), nw_gn (by decide), nw_gn (by decide), nw_gn (by decide), nw_gn (by decide), hC.2.2.2.2.1 v hv]; rfl
            · rw [nw_gn (by decide), nw_gn (by decide), nw_gn (by decide), nw_gn (by decide), nw_gn (by decide), nw_gn (by decide), hC.2.2.2.2.2 e he f hf]; rfl
          obtain ⟨τ, g1, g2, g3⟩ := nw_list hW' hC'
          have h17 : (jv_si (jv_si σ 0 7 (0 : Int32)) 0 8 (0 : Int32)).1 1 7 = nI (nw_m N) := by rw [nw_gn (by decide), nw_gn (by decide), hC.2.1]
          refine ⟨_, _, τ, Or.inl ⟨i, j, l, hi, hj, hne, hl1, hl2, rfl, rfl, rfl, cm, rfl, rfl⟩, ?_, nx_chg hW' (nw_p67 g2 hC') g3 (fun v hv => ?_) ?_ ?_⟩
          · show f_L_add σ (nI i) (nI j) (nI l) = _
            unfold f_L_add f_X7_addEdge f_X3_hasRoom f_X3_append f_X7_endDraws
            rw [e1, nx_xeO, r3, nx_xeO, hC.2.1, if_neg (show ¬ (24 : Int32) ≤ nI (nw_m N) from nI_ge (b := 24) cm (by omega)), nw_lt, if_pos rfl, nw_lt, h17, nw_wr (n := 24) cm (by omega), nw_wr (n := 24) cm (by omega), nw_wr (n := 24) cm (by omega), nw_gn (by decide), nw_gn (by decide), nw_gn (by decide), h17, nI_1, g1]
            rfl
          · rw [(g2.lng (k := 27) (fun _ => rfl)).1, nw_gn (by decide), nw_gn (by decide), nw_gn (by decide), nw_gn (by decide), nw_gn (by decide), nw_gn (by decide), h27 v hv]
          · rw [(g2.lng (k := 0) (fun _ => rfl)).1]; simp [nw_g]
          · rw [(g2.lng (k := 0) (fun _ => rfl)).1]; simp [nw_g]
        · have hm24 : nw_m N = 24 := by omega
          refine ⟨_, _, σ, Or.inr ⟨Or.inr (Or.inr hm24), rfl, rfl⟩, ?_, h⟩
          show f_L_add σ (nI i) (nI j) (nI l) = _
          unfold f_L_add f_X7_addEdge f_X3_hasRoom
          rw [e1, nx_xeO, r3, nx_xeO, hC.2.1, hm24, if_pos (show (24 : Int32) ≤ nI 24 from nI_le (Nat.le_refl _) (by omega))]
          rfl
      · refine ⟨_, _, σ, Or.inr ⟨Or.inr (Or.inl r1), rfl, rfl⟩, ?_, h⟩
        show f_L_add σ (nI i) (nI j) z = _
        unfold f_L_add f_X7_addEdge
        rw [e1, nx_xeO, r3]
        rfl
    · refine ⟨_, _, σ, Or.inr ⟨Or.inl e0, rfl, rfl⟩, ?_, h⟩
      show f_L_add σ x y z = _
      unfold f_L_add f_X7_addEdge
      rw [e1]
      rfl
/-! a length -/
def nx_Rl (N : nw_N) (P K : Option (Nat × Nat × Nat)) (x y a : Int32) (p' : nx_Pic) : Prop := (∃ i l, i < nw_m N ∧ 1 ≤ l ∧ l ≤ 1000 ∧ x = nI i ∧ y = nI l ∧ a = nI (nw_l N i) ∧ p' = (nx_Nl N i l, none, none)) ∨ ((nx_nn (nw_m N) x ∨ ¬ ((1 : Int32) ≤ y ∧ y ≤ (1000 : Int32))) ∧ a = (-99999 : Int32) ∧ p' = (N, P, K))
theorem nx_T0 (x y : Int32) (h0 : nx_H (N, P, K) σ0) : ∃ a p', nx_Rl N P K x y a p' ∧ nx_D (N, P, K) (fun σ => f_L_sets σ (0 : Int32) x y) a p' := by
  have hn := h0.1.1.n
  have hn : 2 ≤ nw_n N ∧ nw_n N ≤ 10 ∧ nw_m N ≤ 24 := hn
  refine nx_det (fun a b p1 p2 h h' => ?_) (fun σ h => ?_) h0
  · rcases h with ⟨i, l, h1, h2, h3, h4, h5, h6, h7⟩ | ⟨h1, h6, h7⟩ <;> rcases h' with ⟨i', l', g1, g2, g3, g4, g5, g6, g7⟩ | ⟨g1, g6, g7⟩
    · have e1 := nx_inj (by omega) (by omega) h4 g4
      have e2 := nx_inj (by omega) (by omega) h5 g5
      subst e1; subst e2
      exact ⟨h6.trans g6.symm, h7.trans g7.symm⟩
    · rcases g1 with g1 | g1
      · rw [h4] at g1; exact absurd g1 (nx_out2 h1 (by omega))
      · rw [h5] at g1; exact absurd (nx_in (lo := 1) (hi := 1000) h2 h3 (by omega)) g1
    · rcases h1 with h1 | h1
      · rw [g4] at h1; exact absurd h1 (nx_out2 g1 (by omega))
      · rw [g5] at h1; exact absurd (nx_in (lo := 1) (hi := 1000) g2 g3 (by omega)) h1
    · exact ⟨h6.trans g6.symm, h7.trans g7.symm⟩
  · obtain ⟨hW, hC, hD, h27⟩ := id h.1
    have hW : nw_W N := hW
    have hC : nw_C0 N σ := hC
    rcases nx_edge h.1 x with ⟨i, hi, rfl, e1⟩ | ⟨e0, e1⟩
    · rcases nx_range (σ := σ) y (1 : Int32) (1000 : Int32) with ⟨r1, r2, r3⟩ | ⟨r1, r3⟩
      · obtain ⟨l, rfl, hl1, hl2⟩ := nx_rng (lo := 1) (hi := 1000) (by omega) (by omega) r1 r2
        have hi : i < nw_m N := hi
        have el : ∀ e, nw_l (nx_Nl N i l) e = nw_u1 (nw_l N) i l e := fun _ => rfl
        have hW' : nw_W (nx_Nl N i l) := ⟨hn.1, hn.2.1, hn.2.2, fun e he => by
          rw [el]
          show nw_t N e < nw_n N ∧ nw_e N e < nw_n N ∧ nw_t N e ≠ nw_e N e ∧ _
          have := hW.e (show e < nw_m N from he)
          by_cases c1 : e = i
          · rw [c1] at this ⊢; rw [nw_u1s]; omega
          · rw [nw_u1n c1]; omega, hW.2.2.2.2⟩
        have hk : ∀ k a, k ≠ 0 → k ≠ 4 → (jv_si (jv_si (jv_si σ 0 7 (0 : Int32)) 0 8 (0 : Int32)) 4 i (nI l)).1 k a = σ.1 k a := fun k a h1 h2 => by
          rw [nw_gn h2, nw_gn h1, nw_gn h1]
        have hk0 : ∀ k, k ≠ 0 → k ≠ 4 → (jv_si (jv_si (jv_si σ 0 7 (0 : Int32)) 0 8 (0 : Int32)) 4 i (nI l)).1 k = σ.1 k := fun k h1 h2 => funext fun a => hk k a h1 h2
        refine ⟨_, _, jv_si (jv_si (jv_si σ 0 7 (0 : Int32)) 0 8 (0 : Int32)) 4 i (nI l), Or.inl ⟨i, l, hi, hl1, hl2, rfl, rfl, rfl, rfl⟩, ?_, nx_chg hW' ⟨?_, ?_, fun e he => ⟨?_, ?_, ?_⟩, fun e he => ?_, fun v hv => ?_, fun e he f hf => ?_⟩ ⟨?_, ?_⟩ (fun v hv => ?_) ?_ ?_⟩
        · show f_L_sets σ (0 : Int32) (nI i) (nI l) = _
          unfold f_L_sets f_X7_setLength f_X7_requireEdge f_X3_changeLength f_X7_endDraws f_X3_lengthOf
          rw [if_pos rfl, if_pos e1, nx_xeO, r3, nx_xeO]
          show some (jv_rd ((jv_si (jv_si σ 0 7 (0 : Int32)) 0 8 (0 : Int32)).1 4) 24 (0 : Int32) (nI i), jv_wr (jv_si (jv_si σ 0 7 (0 : Int32)) 0 8 (0 : Int32)) 4 24 (nI i) (nI l)) = _
          rw [nw_rd (n := 24) (by omega) (by omega), nw_gn (by decide), nw_gn (by decide), (hC.2.2.1 i hi).2.2, nw_wr (n := 24) (by omega) (by omega)]
        · rw [hk 1 6 (by decide) (by decide)]; exact hC.1
        · rw [hk 1 7 (by decide) (by decide)]; exact hC.2.1
        · rw [hk 2 e (by decide) (by decide)]; exact (hC.2.2.1 e he).1
        · rw [hk 3 e (by decide) (by decide)]; exact (hC.2.2.1 e he).2.1
        · rw [el]
          by_cases c1 : e = i
          · rw [c1, nw_gs, nw_u1s]
          · rw [nw_gj c1, nw_u1n c1, nw_gn (by decide), nw_gn (by decide)]; exact (hC.2.2.1 e he).2.2
        · rw [hk 1 9 (by decide) (by decide)]; exact hC.2.2.2.1 e he
        · rw [hk 1 8 (by decide) (by decide)]; exact hC.2.2.2.2.1 v hv
        · rw [hk 5 e (by decide) (by decide)]; exact hC.2.2.2.2.2 e he f hf
        · rw [hk0 7 (by decide) (by decide)]; exact hD.1
        · rw [hk0 6 (by decide) (by decide)]; exact hD.2
        · rw [hk 27 _ (by decide) (by decide)]; exact h27 v hv
        · simp [nw_g]
        · simp [nw_g]
      · refine ⟨_, _, σ, Or.inr ⟨Or.inr r1, rfl, rfl⟩, ?_, h⟩
        show f_L_sets σ (0 : Int32) (nI i) y = _
        unfold f_L_sets f_X7_setLength f_X7_requireEdge
        rw [if_pos rfl, if_pos e1, nx_xeO, r3]
        rfl
    · refine ⟨_, _, σ, Or.inr ⟨Or.inl e0, rfl, rfl⟩, ?_, h⟩
      show f_L_sets σ (0 : Int32) x y = _
      unfold f_L_sets f_X7_setLength f_X7_requireEdge
      rw [if_pos rfl, if_neg (by rw [e1]; decide)]
      rfl
/-! an edge, a node -/
def nx_Re (N : nw_N) (P K : Option (Nat × Nat × Nat)) (x a : Int32) (p' : nx_Pic) : Prop := (∃ i, i < nw_m N ∧ x = nI i ∧ a = jv_b (!nw_ce N i) ∧ p' = (nx_Ne N i, none, none)) ∨ (nx_nn (nw_m N) x ∧ a = (-99999 : Int32) ∧ p' = (N, P, K))
theorem nx_T1 (x y : Int32) (h0 : nx_H (N, P, K) σ0) : ∃ a p', nx_Re N P K x a p' ∧ nx_D (N, P, K) (fun σ => f_L_sets σ (1 : Int32) x y) a p' := by
  have hn := h0.1.1.n
  have hn : 2 ≤ nw_n N ∧ nw_n N ≤ 10 ∧ nw_m N ≤ 24 := hn
  refine nx_det (fun a b p1 p2 h h' => ?_) (fun σ h => ?_) h0
  · rcases h with ⟨i, h1, h4, h6, h7⟩ | ⟨h1, h6, h7⟩ <;> rcases h' with ⟨i', g1, g4, g6, g7⟩ | ⟨g1, g6, g7⟩
    · have e1 := nx_inj (by omega) (by omega) h4 g4
      subst e1
      exact ⟨h6.trans g6.symm, h7.trans g7.symm⟩
    · rw [h4] at g1; exact absurd g1 (nx_out2 h1 (by omega))
    · rw [g4] at h1; exact absurd h1 (nx_out2 g1 (by omega))
    · exact ⟨h6.trans g6.symm, h7.trans g7.symm⟩
  · obtain ⟨hW, hC, hD, h27⟩ := id h.1
    have hW : nw_W N := hW
    have hC : nw_C0 N σ := hC
    rcases nx_edge h.1 x with ⟨i, hi, rfl, e1⟩ | ⟨e0, e1⟩
    · have hi : i < nw_m N := hi
      have ec : ∀ e, nw_ce (nx_Ne N i) e = if e = i then !nw_ce N e else nw_ce N e := fun _ => rfl
      have hW' : nw_W (nx_Ne N i) := ⟨hW.1, hW.2.1, hW.2.2.1, hW.2.2.2.1, fun e he => by
        have he' : nw_m N ≤ e := he
        rw [ec, if_neg (by omega)]; exact hW.2.2.2.2 e he'⟩
      have hC' : nw_C0 (nx_Ne N i) (jv_si (jv_si (jv_si σ 0 7 (0 : Int32)) 0 8 (0 : Int32)) 1 9 ((jv_si (jv_si σ 0 7 (0 : Int32)) 0 8 (0 : Int32)).1 1 9 ^^^ ((1 : Int32) <<< (nI i &&& 31)))) := by
        refine ⟨?_, ?_, fun e he => ⟨?_, ?_, ?_⟩, fun e he => ?_, fun v hv => ?_, fun e he f hf => ?_⟩
        · rw [nw_gj (by decide), nw_gn (by decide), nw_gn (by decide)]; exact hC.1
        · rw [nw_gj (by decide), nw_gn (by decide), nw_gn (by decide)]; exact hC.2.1
        · rw [nw_gn (by decide), nw_gn (by decide), nw_gn (by decide)]; exact (hC.2.2.1 e he).1
        · rw [nw_gn (by decide), nw_gn (by decide), nw_gn (by decide)]; exact (hC.2.2.1 e he).2.1
        · rw [nw_gn (by decide), nw_gn (by decide), nw_gn (by decide)]; exact (hC.2.2.1 e he).2.2
        · rw [nw_gs, nw_gn (by decide), nw_gn (by decide), nw_xor1 (by omega) (by omega), hC.2.2.2.1 e he, ec]
          by_cases c1 : e = i
          · simp [c1]
          · simp [c1]
        · rw [nw_gj (by decide), nw_gn (by decide), nw_gn (by decide)]; exact hC.2.2.2.2.1 v hv
        · rw [nw_gn (by decide), nw_gn (by decide), nw_gn (by decide)]; exact hC.2.2.2.2.2 e he f hf
      obtain ⟨τ, g1, g2, g3⟩ := nw_list hW' hC'
      have hCτ := nw_p67 g2 hC'
      have hbt : f_X7_hasBit τ (τ.1 1 9) (nI i) = !nw_ce N i := by
        rw [nw_hb (by omega), hCτ.2.2.2.1 i (by omega), ec, if_pos rfl]
      refine ⟨_, _, τ, Or.inl ⟨i, hi, rfl, rfl, rfl⟩, ?_, nx_chg hW' hCτ g3 (fun v hv => ?_) ?_ ?_⟩
      · show f_L_sets σ (1 : Int32) (nI i) y = _
        unfold f_L_sets f_X7_toggleEdge f_X7_requireEdge f_X3_switchEdge f_X7_endDraws
        rw [if_neg (by decide), if_pos rfl, if_pos e1, nx_xeO, nw_lt, g1]
        show (if f_X7_hasBit τ (τ.1 1 9) (nI i) = true then some ((1 : Int32), τ) else some ((0 : Int32), τ)) = _
        rw [hbt]
        cases nw_ce N i <;> rfl
      · rw [(g2.lng (k := 27) (fun _ => rfl)).1, nw_gn (by decide), nw_gn (by decide), nw_gn (by decide)]; exact h27 v hv
      · rw [(g2.lng (k := 0) (fun _ => rfl)).1]; simp [nw_g]
      · rw [(g2.lng (k := 0) (fun _ => rfl)).1]; simp [nw_g]
    · refine ⟨_, _, σ, Or.inr ⟨e0, rfl, rfl⟩, ?_, h⟩
      show f_L_sets σ (1 : Int32) x y = _
      unfold f_L_sets f_X7_toggleEdge f_X7_requireEdge
      rw [if_neg (by decide), if_pos rfl, if_neg (by rw [e1]; decide)]
      rfl
def nx_Rn (N : nw_N) (P K : Option (Nat × Nat × Nat)) (x a : Int32) (p' : nx_Pic) : Prop := (∃ i, i < nw_n N ∧ x = nI i ∧ a = jv_b (!nw_cn N i) ∧ p' = (nx_Nn N i, none, none)) ∨ (nx_nn (nw_n N) x ∧ a = (-99999 : Int32) ∧ p' = (N, P, K))
theorem nx_T2 (x y : Int32) (h0 : nx_H (N, P, K) σ0) : ∃ a p', nx_Rn N P K x a p' ∧ nx_D (N, P, K) (fun σ => f_L_sets σ (2 : Int32) x y) a p' := by
  have hn := h0.1.1.n
  have hn : 2 ≤ nw_n N ∧ nw_n N ≤ 10 ∧ nw_m N ≤ 24 := hn
  refine nx_det (fun a b p1 p2 h h' => ?_) (fun σ h => ?_) h0
  · rcases h with ⟨i, h1, h4, h6, h7⟩ | ⟨h1, h6, h7⟩ <;> rcases h' with ⟨i', g1, g4, g6, g7⟩ | ⟨g1, g6, g7⟩
    · have e1 := nx_inj (by omega) (by omega) h4 g4
      subst e1
      exact ⟨h6.trans g6.symm, h7.trans g7.symm⟩
    · rw [h4] at g1; exact absurd g1 (nx_out2 h1 (by omega))
    · rw [g4] at h1; exact absurd h1 (nx_out2 g1 (by omega))
    · exact ⟨h6.trans g6.symm, h7.trans g7.symm⟩
  · obtain ⟨hW, hC, hD, h27⟩ := id h.1
    have hW : nw_W N := hW
    have hC : nw_C0 N σ := hC
    rcases nx_node h.1 x with ⟨i, hi, rfl, e1⟩ | ⟨e0, e1⟩
    · have hi : i < nw_n N := hi
      have ec : ∀ e, nw_cn (nx_Nn N i) e = if e = i then !nw_cn N e else nw_cn N e := fun _ => rfl
      have hW' : nw_W (nx_Nn N i) := hW
      have hC' : nw_C0 (nx_Nn N i) (jv_si (jv_si (jv_si σ 0 7 (0 : Int32)) 0 8 (0 : Int32)) 1 8 ((jv_si (jv_si σ 0 7 (0 : Int32)) 0 8 (0 : Int32)).1 1 8 ^^^ ((1 : Int32) <<< (nI i &&& 31)))) := by
        refine ⟨?_, ?_, fun e he => ⟨?_, ?_, ?_⟩, fun e he => ?_, fun v hv => ?_, fun e he f hf => ?_⟩
        · rw [nw_gj (by decide), nw_gn (by decide), nw_gn (by decide)]; exact hC.1
        · rw [nw_gj (by decide), nw_gn (by decide), nw_gn (by decide)]; exact hC.2.1
        · rw [nw_gn (by decide), nw_gn (by decide), nw_gn (by decide)]; exact (hC.2.2.1 e he).1
        · rw [nw_gn (by decide), nw_gn (by decide), nw_gn (by decide)]; exact (hC.2.2.1 e he).2.1
        · rw [nw_gn (by decide), nw_gn (by decide), nw_gn (by decide)]; exact (hC.2.2.1 e he).2.2
        · rw [nw_gj (by decide), nw_gn (by decide), nw_gn (by decide)]; exact hC.2.2.2.1 e he
        · rw [nw_gs, nw_gn (by decide), nw_gn (by decide), nw_xor1 (by omega) (by omega), hC.2.2.2.2.1 v hv, ec]
          by_cases c1 : v = i
          · simp [c1]
          · simp [c1]
        · rw [nw_gn (by decide), nw_gn (by decide), nw_gn (by decide)]; exact hC.2.2.2.2.2 e he f hf
      obtain ⟨τ, g1, g2, g3⟩ := nw_list hW' hC'
      have hCτ := nw_p67 g2 hC'
      have hbt : f_X7_hasBit τ (τ.1 1 8) (nI i) = !nw_cn N i := by
        rw [nw_hb (by omega), hCτ.2.2.2.2.1 i (by omega), ec, if_pos rfl]
      refine ⟨_, _, τ, Or.inl ⟨i, hi, rfl, rfl, rfl⟩, ?_, nx_chg hW' hCτ g3 (fun v hv => ?_) ?_ ?_⟩
      · show f_L_sets σ (2 : Int32) (nI i) y = _
        unfold f_L_sets f_X7_toggleNode f_X7_requireNodes f_X3_switchNode f_X7_endDraws
        rw [if_neg (by decide), if_neg (by decide), if_pos rfl, if_pos e1, if_pos e1, nx_xeO, nw_lt, g1]
        show (if f_X7_hasBit τ (τ.1 1 8) (nI i) = true then some ((1 : Int32), τ) else some ((0 : Int32), τ)) = _
        rw [hbt]
        cases nw_cn N i <;> rfl
      · rw [(g2.lng (k := 27) (fun _ => rfl)).1, nw_gn (by decide), nw_gn (by decide), nw_gn (by decide)]; exact h27 v hv
      · rw [(g2.lng (k := 0) (fun _ => rfl)).1]; simp [nw_g]
      · rw [(g2.lng (k := 0) (fun _ => rfl)).1]; simp [nw_g]
    · refine ⟨_, _, σ, Or.inr ⟨e0, rfl, rfl⟩, ?_, h⟩
      show f_L_sets σ (2 : Int32) x y = _
      unfold f_L_sets f_X7_toggleNode f_X7_requireNodes
      rw [if_neg (by decide), if_neg (by decide), if_pos rfl, if_neg (by rw [e1]; decide)]
      rfl
/-! a turn: the draws go on -/
theorem nx_5P {g : Nat → Nat → Bool} (h : nx_P N P σ) : nx_P (nw_N5 N g) P σ := by
  have hk : nw_key (nw_N5 N g) = nw_key N := funext fun p => by unfold nw_key; rw [nw_5sl]
  have ha : ∀ fr to, nw_ap (nw_N5 N g) fr to = nw_ap N fr to := fun fr to => by unfold nw_ap; rw [nw_5pp]
  match P, h with
  | none, h => exact h
  | some (fr, to, k), ⟨h1, a1, a2, a3, a4, cur, a5, a6, a7⟩ =>
    refine ⟨h1, a1, a2, a3, a4, cur, a5, ?_, ?_⟩
    · unfold nw_CP nw_rs at a6 ⊢
      rw [ha, hk]
      exact a6
    · unfold nx_cur nx_kth nx_rank at a7 ⊢
      rw [ha, hk]
      exact a7
theorem nx_5K {g : Nat → Nat → Bool} (h : nx_K N K σ) : nx_K (nw_N5 N g) K σ := by
  match K, h with
  | none, h => exact h
  | some (fr, to, k), h => exact h
def nx_Rt (N : nw_N) (P K : Option (Nat × Nat × Nat)) (x y a : Int32) (p' : nx_Pic) : Prop := (∃ i j, i < nw_m N ∧ j < nw_m N ∧ nw_t N j = nw_e N i ∧ x = nI i ∧ y = nI j ∧ a = jv_b (!nw_fb N i j) ∧ p' = (nx_Nt N i j, P, K)) ∨ ((nx_nn (nw_m N) x ∨ nx_nn (nw_m N) y ∨ ∃ i j, i < nw_m N ∧ j < nw_m N ∧ nw_t N j ≠ nw_e N i ∧ x = nI i ∧ y = nI j) ∧ a = (-99999 : Int32) ∧ p' = (N, P, K))
theorem nx_Rt_no {x y : Int32} {i j : Nat} (hn : nw_m N ≤ 24) (h1 : i < nw_m N) (h2 : j < nw_m N) (h3 : nw_t N j = nw_e N i) (h4 : x = nI i) (h5 : y = nI j) (g : nx_nn (nw_m N) x ∨ nx_nn (nw_m N) y ∨ ∃ i j, i < nw_m N ∧ j < nw_m N ∧ nw_t N j ≠ nw_e N i ∧ x = nI i ∧ y = nI j) : False := by
  rcases g with g | g | ⟨i', j', g1, g2, g3, g4, g5⟩
  · rw [h4] at g; exact nx_out2 h1 (by omega) g
  · rw [h5] at g; exact nx_out2 h2 (by omega) g
  · have e1 := nx_inj (by omega) (by omega) h4 g4
    have e2 := nx_inj (by omega) (by omega) h5 g5
    subst e1; subst e2
    exact g3 h3
theorem nx_T3 (x y : Int32) (h0 : nx_H (N, P, K) σ0) : ∃ a p', nx_Rt N P K x y a p' ∧ nx_D (N, P, K) (fun σ => f_L_sets σ (3 : Int32) x y) a p' := by
  have hn := h0.1.1.n
  have hn : 2 ≤ nw_n N ∧ nw_n N ≤ 10 ∧ nw_m N ≤ 24 := hn
  refine nx_det (fun a b p1 p2 h h' => ?_) (fun σ h => ?_) h0
  · rcases h with ⟨i, j, h1, h2, h3, h4, h5, h6, h7⟩ | ⟨h1, h6, h7⟩ <;> rcases h' with ⟨i', j', g1, g2, g3, g4, g5, g6, g7⟩ | ⟨g1, g6, g7⟩
    · have e1 := nx_inj (by omega) (by omega) h4 g4
      have e2 := nx_inj (by omega) (by omega) h5 g5
      subst e1; subst e2
      exact ⟨h6.trans g6.symm, h7.trans g7.symm⟩
    · exact (nx_Rt_no hn.2.2 h1 h2 h3 h4 h5 g1).elim
    · exact (nx_Rt_no hn.2.2 g1 g2 g3 g4 g5 h1).elim
    · exact ⟨h6.trans g6.symm, h7.trans g7.symm⟩
  · obtain ⟨hW, hC, hD, h27⟩ := id h.1
    have hW : nw_W N := hW
    have hC : nw_C0 N σ := hC
    rcases nx_edge h.1 x with ⟨i, hi, rfl, e1⟩ | ⟨e0, e1⟩
    · rcases nx_edge h.1 y with ⟨j, hj, rfl, e3⟩ | ⟨e0, e3⟩
      · have hi : i < nw_m N := hi
        have hj : j < nw_m N := hj
        by_cases cm : nw_t N j = nw_e N i
        · have ec : ∀ e f, nw_fb (nx_Nt N i j) e f = if e = i ∧ f = j then !nw_fb N e f else nw_fb N e f := fun _ _ => rfl
          have hx : bt (σ.1 5 i ^^^ ((1 : Int32) <<< (nI j &&& 31))) j = !nw_fb N i j := by
            rw [nw_xor1 (by omega) (by omega), hC.2.2.2.2.2 i (by omega) j (by omega)]; simp
          have hf : nw_f (nw_r 5) σ (jv_si σ 5 i (σ.1 5 i ^^^ ((1 : Int32) <<< (nI j &&& 31)))) := nw_f.rfl.si nw_r_t
          have hk : ∀ k a, k ≠ 5 → (jv_si σ 5 i (σ.1 5 i ^^^ ((1 : Int32) <<< (nI j &&& 31)))).1 k a = σ.1 k a := fun k a h1 => by rw [nw_gn h1]
          refine ⟨_, _, jv_si σ 5 i (σ.1 5 i ^^^ ((1 : Int32) <<< (nI j &&& 31))), Or.inl ⟨i, j, hi, hj, cm, rfl, rfl, rfl, rfl⟩, ?_, ⟨hW, ⟨?_, ?_, fun e he => ⟨?_, ?_, ?_⟩, fun e he => ?_, fun v hv => ?_, fun e he f hf' => ?_⟩, ?_, fun v hv => ?_⟩, nx_5P (h.2.1.keep hf (fun k j hkj => ?_)), nx_5K (h.2.2.keep hf (fun k j hkj => ?_))⟩
          · show f_L_sets σ (3 : Int32) (nI i) (nI j) = _
            unfold f_L_sets f_X7_toggleTurn f_X7_requireEdge f_X3_switchTurn f_X3_isForbidden
            rw [if_neg (by decide), if_neg (by decide), if_neg (by decide), if_pos e1, nx_xeO, if_pos e3, nx_xeO, nw_head hW hC hi, nw_tail hW hC hj, if_pos (by rw [cm]), nw_rd (n := 24) (by omega) (by omega), nw_wr (n := 24) (by omega) (by omega), nw_rd (n := 24) (by omega) (by omega), nw_gs, nw_hb (by omega), hx]
            cases nw_fb N i j <;> rfl
          · rw [hk _ _ (by decide)]; exact hC.1
          · rw [hk _ _ (by decide)]; exact hC.2.1
          · rw [hk _ _ (by decide)]; exact (hC.2.2.1 e he).1
          · rw [hk _ _ (by decide)]; exact (hC.2.2.1 e he).2.1
          · rw [hk _ _ (by decide)]; exact (hC.2.2.1 e he).2.2
          · rw [hk _ _ (by decide)]; exact hC.2.2.2.1 e he
          · rw [hk _ _ (by decide)]; exact hC.2.2.2.2.1 v hv
          · rw [ec]
            by_cases c1 : e = i
            · rw [c1, nw_gs, nw_xor1 (by omega) (by omega), hC.2.2.2.2.2 i (by omega) f hf']
              by_cases c2 : f = j
              · simp [c2]
              · simp [c2]
            · rw [nw_gj c1, if_neg (fun h => c1 h.1)]; exact hC.2.2.2.2.2 e he f hf'
          · exact hD.keep (funext fun a => hk 6 a (by decide)) (funext fun a => hk 7 a (by decide))
          · rw [hk _ _ (by decide)]; exact h27 v hv
          · simp only [nx_dP, nw_r, Bool.or_eq_true, Bool.and_eq_true, beq_iff_eq, beq_eq_false_iff_ne] at hkj ⊢
            omega
          · simp only [nx_dW, nw_r, Bool.or_eq_true, Bool.and_eq_true, beq_iff_eq, beq_eq_false_iff_ne] at hkj ⊢
            omega
        · refine ⟨_, _, σ, Or.inr ⟨Or.inr (Or.inr ⟨i, j, hi, hj, cm, rfl, rfl⟩), rfl, rfl⟩, ?_, h⟩
          have hb1 := hW.e hi
          have hb2 := hW.e hj
          show f_L_sets σ (3 : Int32) (nI i) (nI j) = _
          unfold f_L_sets f_X7_toggleTurn f_X7_requireEdge
          rw [if_neg (by decide), if_neg (by decide), if_neg (by decide), if_pos e1, nx_xeO, if_pos e3, nx_xeO, nw_head hW hC hi, nw_tail hW hC hj, if_neg (fun h => cm ((nI_eq (by omega) (by omega)).mp h).symm)]
          rfl
      · refine ⟨_, _, σ, Or.inr ⟨Or.inr (Or.inl e0), rfl, rfl⟩, ?_, h⟩
        show f_L_sets σ (3 : Int32) (nI i) y = _
        unfold f_L_sets f_X7_toggleTurn f_X7_requireEdge
        rw [if_neg (by decide), if_neg (by decide), if_neg (by decide), if_pos e1, nx_xeO, if_neg (by rw [e3]; decide)]
        rfl
    · refine ⟨_, _, σ, Or.inr ⟨Or.inl e0, rfl, rfl⟩, ?_, h⟩
      show f_L_sets σ (3 : Int32) x y = _
      unfold f_L_sets f_X7_toggleTurn f_X7_requireEdge
      rw [if_neg (by decide), if_neg (by decide), if_neg (by decide), if_neg (by rw [e1]; decide)]
      rfl
end NXCH
