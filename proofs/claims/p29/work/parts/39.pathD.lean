/-! ===== the class's search for the next page ===== -/
theorem nw_kp_le {cur x : Nat} {pg pg' : List Nat} (hp : pg.Pairwise (fun a b => a ≤ b)) (h : nw_kp cur pg x pg') : pg'.Pairwise (fun a b => a ≤ b) := by
  rcases h with ⟨rfl, _⟩ | ⟨_, _, A, B, rfl, rfl, hA, hB⟩
  · exact hp
  · refine List.Pairwise.sublist (List.take_sublist _ _) ?_
    rw [List.pairwise_append] at hp ⊢
    refine ⟨hp.1, List.pairwise_cons.mpr ⟨fun b hb => Nat.le_of_lt (hB b hb), hp.2.1⟩, fun a ha b hb => ?_⟩
    rcases List.mem_cons.mp hb with rfl | hb
    · exact hA a ha
    · exact hp.2.2 a ha b hb
def nw_kb (N : nw_N) (b d : Nat) (p : List Nat) : Nat := b + nw_sl N p * 2 ^ 45 + nw_dg (9 - d) p
theorem nw_dg_nil (k : Nat) : nw_dg k [] = 0 := by cases k <;> rfl
theorem nw_kb_cons {N : nw_N} {b d e : Nat} {p : List Nat} (hd : d ≤ 8) : nw_kb N b d (e :: p) = nw_kb N (b + nw_l N e * 2 ^ 45 + (e + 1) * 32 ^ (8 - d)) (d + 1) p := by
  unfold nw_kb
  rw [show 9 - d = (8 - d) + 1 by omega, show 9 - (d + 1) = 8 - d by omega]
  show b + (nw_l N e + nw_sl N p) * 2 ^ 45 + ((e + 1) * 32 ^ (8 - d) + nw_dg (8 - d) p) = _
  rw [Nat.add_mul (nw_l N e)]
  omega
def nw_eE (N : nw_N) (to : Nat) (x : Nat → Nat) (cur : Nat) (σ : jv_S) : Prop := nw_C0 N σ ∧ nw_C1 N σ ∧ σ.1 10 6 = nI to ∧ nw_rp 13 σ x ∧ σ.2 10 8 = lN cur
theorem nw_eE.keep {N : nw_N} {to cur : Nat} {x : Nat → Nat} {σ τ : jv_S} (h : nw_eE N to x cur σ) (hf : nw_f nw_pP σ τ) : nw_eE N to x cur τ := by
  obtain ⟨h1, h2, h3, h4, h5⟩ := h
  refine ⟨h1.keep (fun k j hk => (hf k j ?_).1), h2.keep (hf.lng (fun _ => rfl)).1 (hf.lng (fun _ => rfl)).1, by rw [(hf 10 6 rfl).1, h3], fun v hv => by rw [(hf 13 v rfl).1, h4 v hv], by rw [(hf 10 8 rfl).2, h5]⟩
  simp only [nw_pC, Bool.or_eq_true, Bool.and_eq_true, beq_iff_eq] at hk
  have h10 : k ≠ 10 := by omega
  have h11 : k ≠ 11 := by omega
  simp [nw_pP, h10, h11]
section NWX
variable {N : nw_N} {to : Nat}
theorem nw_leads {σ : jv_S} {x : Nat → Nat} {u b : Nat} {pg : List Nat} (hW : nw_W N) (hx : nw_ds N to x) (hr : nw_rp 13 σ x) (hp : nw_pg σ pg) (hu : u < 10) (hb : b ≤ 20000 * 2 ^ 45) : f_X5_leadsOn σ (nI u) (lN b) = true ∨ x u = 1000000000 ∨ (pg.length = 16 ∧ ∃ z, pg[15]? = some z ∧ z ≤ b + x u * 2 ^ 45) := by
  obtain ⟨h1, h2, h3, h4⟩ := hp
  have hbx := (hx.1 u hu).1
  unfold f_X5_leadsOn
  rw [nw_ofN hr hu, nw_lt]
  by_cases c1 : 1000000000 ≤ x u
  · exact Or.inr (Or.inl (by omega))
  · have hx9 := nw_ds_le hW hx hu (by omega)
    rw [if_neg (show ¬ (1000000000 : Int32) ≤ nI (x u) from nI_ge (b := 1000000000) (by omega) (by omega)), nw_ofL (by omega), lN_add]
    by_cases c2 : f_X5_fits σ (lN (b + x u * 2 ^ 45)) = true
    · rw [if_pos c2]; exact Or.inl rfl
    · refine Or.inr (Or.inr ?_)
      unfold f_X5_fits at c2
      rw [nw_lt, h2] at c2
      by_cases c3 : pg.length < 16
      · rw [if_pos (show nI pg.length < (16 : Int32) from nI_lt (b := 16) c3 (by omega))] at c2
        exact absurd rfl c2
      · have hz : pg[15]? = some pg[15] := List.getElem?_eq_getElem (by omega)
        have hzb := h4 _ (List.mem_of_getElem? hz)
        rw [if_neg (show ¬ nI pg.length < (16 : Int32) from nI_nlt (b := 16) (by omega) (by omega)), show (15 : Int32) = nI 15 from rfl, nw_rd (by omega) (by omega), h3 15 _ hz] at c2
        refine ⟨by omega, _, hz, ?_⟩
        by_cases c4 : pg[15] ≤ b + x u * 2 ^ 45
        · exact c4
        · rw [if_neg (fun h => c4 ((nw_cmp1 (by omega) hzb).mp h))] at c2
          exact absurd rfl c2
set_option maxRecDepth 8000 in
theorem nw_exp_lp (hW : nw_W N) {x : Nat → Nat} {cur : Nat} (hto : to < 10) (hx : nw_ds N to x) (hcb : cur < 2 ^ 62) {f : Nat} {V : Nat → Bool} {v b d : Nat} {mask : Int32} {rec : jv_S → Int32 → Int32 → Int64 → Int32 → Option jv_S}
    (hv : v < 10) (hm : ∀ w, w < 10 → bt mask w = V w) (hVt : V to = false) (hd : d ≤ 8) (hb : b ≤ d * (1001 * 2 ^ 45)) (hrec : ∀ (σ : jv_S) (pg : List Nat) (e b' : Nat), nw_eE N to x cur σ → nw_pg σ pg → pg.Pairwise (fun a b => a ≤ b) → e < nw_m N → nw_e N e ≠ to → V (nw_e N e) = false → b' ≤ (d + 1) * (1001 * 2 ^ 45) →
      ∃ τ pg', rec σ (nI (nw_e N e)) (mask ||| ((1 : Int32) <<< (nI (nw_e N e) &&& 31))) (lN b') (nI (d + 1)) = some τ ∧ nw_f nw_pP σ τ ∧ nw_pg τ pg' ∧ pg'.Pairwise (fun a b => a ≤ b) ∧ nw_ks cur pg ((nw_pp N to f (fun w => V w || w == nw_e N e) (nw_e N e)).map (nw_kb N b' (d + 1))) pg') :
    ∀ (l pre : List Nat) (fuel : Nat) (σ : jv_S) (pg : List Nat), nw_oe N v = pre ++ l → l.length < fuel → nw_eE N to x cur σ → nw_pg σ pg → pg.Pairwise (fun a b => a ≤ b) →
    ∃ τ pg' z, f_X5_explore_lp22 rec (nI v) mask (lN b) (nI d) fuel (nI (nw_pv N v + pre.length)) σ = some (z, τ) ∧ nw_f nw_pP σ τ ∧ nw_pg τ pg' ∧ pg'.Pairwise (fun a b => a ≤ b) ∧ nw_ks cur pg ((l.flatMap (nw_br N to f V)).map (nw_kb N b d)) pg' := by
  intro l
  have hn := hW.n
  have hpl := nw_pv_le (N := N) (v := v + 1)
  have hps := nw_pv_s (N := N) (v := v)
  induction l with
  | nil =>
    intro pre fuel σ pg ho hf hE hpg hso
    obtain ⟨f', rfl⟩ := nw_f0 hf
    have hlen := congrArg List.length ho
    simp only [List.append_nil] at hlen
    refine ⟨σ, pg, nI (nw_pv N v + pre.length), ?_, nw_f.rfl, hpg, hso, rfl⟩
    rw [f_X5_explore_lp22, nw_en hE.2.1 hv, if_pos (nI_le (by omega) (by omega))]
  | cons e l ih =>
    intro pre fuel σ pg ho hf hE hpg hso
    obtain ⟨f', rfl, hg⟩ := nw_fe (by simpa using hf)
    have hlen := congrArg List.length ho
    simp only [List.length_append, List.length_cons] at hlen
    have hat : (nw_oe N v)[pre.length]? = some e := by rw [ho]; simp
    obtain ⟨hem, het, heu⟩ := nw_oe_mem.mp (List.mem_of_getElem? hat)
    have hbn := hW.e hem
    have hbx := (hx.1 _ hbn.2.1).1
    have h32 : (e + 1) * 32 ^ (8 - d) ≤ 24 * 32 ^ 8 := Nat.mul_le_mul (by omega) (Nat.pow_le_pow_right (by omega) (by omega))
    have e32 : 32 ^ 8 = 2 ^ 40 := by decide
    have hb' : b + nw_l N e * 2 ^ 45 + (e + 1) * 32 ^ (8 - d) ≤ (d + 1) * (1001 * 2 ^ 45) := by
      rw [Nat.add_mul d]
      omega
    have hb20 : (d + 1) * (1001 * 2 ^ 45) ≤ 9 * (1001 * 2 ^ 45) := Nat.mul_le_mul_right _ (by omega)
    have hb21 : b + nw_l N e * 2 ^ 45 + (e + 1) * 32 ^ (8 - d) ≤ 20000 * 2 ^ 45 := Nat.le_trans hb' (Nat.le_trans hb20 (by decide))
    have ho' : nw_oe N v = (pre ++ [e]) ++ l := by rw [ho]; simp
    have key : ∀ (τ : jv_S) (pg' : List Nat), nw_f nw_pP σ τ → nw_pg τ pg' → pg'.Pairwise (fun a b => a ≤ b) → nw_ks cur pg ((nw_br N to f V e).map (nw_kb N b d)) pg' →
        ∃ ρ pg2 z, f_X5_explore_lp22 rec (nI v) mask (lN b) (nI d) f' (nI (nw_pv N v + pre.length + 1)) τ = some (z, ρ) ∧ nw_f nw_pP σ ρ ∧ nw_pg ρ pg2 ∧ pg2.Pairwise (fun a b => a ≤ b) ∧ nw_ks cur pg (((e :: l).flatMap (nw_br N to f V)).map (nw_kb N b d)) pg2 := fun τ pg' hf1 hp1 hs1 hk1 => by
      obtain ⟨ρ, pg2, z, g1, g2, g3, g4, g5⟩ := ih (pre ++ [e]) f' τ pg' ho' hg (hE.keep hf1) hp1 hs1
      rw [List.length_append, List.length_singleton, ← Nat.add_assoc] at g1
      refine ⟨ρ, pg2, z, g1, hf1.trans g2, g3, g4, ?_⟩
      rw [List.flatMap_cons, List.map_append]
      exact nw_ks_app _ _ _ _ _ hk1 g5
    rw [f_X5_explore_lp22, nw_en hE.2.1 hv, if_neg (nI_ge (by omega) (by omega)), nw_out hW hE.2.1 hv hat, nw_head hW hE.1 hem, nw_len hW hE.1 hem, nw_hb (by omega), hm _ hbn.2.1, hE.2.2.1, nw_ofL (by omega), nw_slot (by omega) hd, lN_add, lN_add, nI_1, nI_1]
    by_cases c3 : nw_e N e = to
    · rw [if_pos (by rw [c3])]
      obtain ⟨τ, pg', g1, g2, g3, g4⟩ := nw_keep (x := b + nw_l N e * 2 ^ 45 + (e + 1) * 32 ^ (8 - d)) hpg hso hE.2.2.2.2 hcb (by omega)
      rw [g1, nw_bd, nw_bd]
      refine key τ pg' g2 g3 (nw_kp_le hso g4) ?_
      unfold nw_br
      rw [if_pos c3]
      refine ⟨pg', ?_, rfl⟩
      rw [nw_kb_cons hd]
      have : nw_kb N (b + nw_l N e * 2 ^ 45 + (e + 1) * 32 ^ (8 - d)) (d + 1) [] = b + nw_l N e * 2 ^ 45 + (e + 1) * 32 ^ (8 - d) := by
        unfold nw_kb
        rw [nw_dg_nil, show nw_sl N [] = 0 from rfl, Nat.zero_mul, Nat.add_zero, Nat.add_zero]
      rw [this]
      exact g4
    · rw [if_neg (fun h => c3 ((nI_eq (by omega) (by omega)).mp h))]
      by_cases c1 : V (nw_e N e) = true
      · rw [if_pos c1, nw_bd]
        refine key σ pg nw_f.rfl hpg hso ?_
        unfold nw_br
        rw [if_neg c3, if_pos c1]
        rfl
      · rw [if_neg c1]
        have hbr : (nw_br N to f V e).map (nw_kb N b d) = (nw_pp N to f (fun w => V w || w == nw_e N e) (nw_e N e)).map (nw_kb N (b + nw_l N e * 2 ^ 45 + (e + 1) * 32 ^ (8 - d)) (d + 1)) := by
          unfold nw_br
          rw [if_neg c3, if_neg c1, List.map_map]
          exact List.map_congr_left (fun p _ => nw_kb_cons hd)
        by_cases c2 : f_X5_leadsOn σ (nI (nw_e N e)) (lN (b + nw_l N e * 2 ^ 45 + (e + 1) * 32 ^ (8 - d))) = true
        · rw [if_pos c2]
          obtain ⟨τ, pg', g1, g2, g3, g4, g5⟩ := hrec σ pg e _ hE hpg hso hem c3 (Bool.eq_false_iff.mpr c1) hb'
          rw [g1, nw_bd, nw_bd]
          exact key τ pg' g2 g3 g4 (by rw [hbr]; exact g5)
        · rw [if_neg c2, nw_bd]
          refine key σ pg nw_f.rfl hpg hso ?_
          rw [hbr]
          rcases nw_leads hW hx hE.2.2.2.1 hpg hbn.2.1 (b := b + nw_l N e * 2 ^ 45 + (e + 1) * 32 ^ (8 - d)) hb21 with h | h | ⟨h, z, hz, hzb⟩
          · exact absurd h c2
          · have : nw_pp N to f (fun w => V w || w == nw_e N e) (nw_e N e) = [] := by
              rw [List.eq_nil_iff_forall_not_mem]
              intro p hp
              obtain ⟨h1, h2, h3, h4, k, hR⟩ := nw_pp_ok hW _ _ _ p hp
              have := hx.2 _ _ _ hbn.2.1 hR
              have hfb : p.length ≤ 10 ∨ 10 < p.length := by omega
              obtain ⟨k', L, hB⟩ := bf_best _ _ hR
              have h5 := bf_hops_lt (N := 10) (fun i w j _ ha => (nw_arcb hW ha).2.1) hbn.2.1 hB
              have h6 := bf_len (base := nw_ba to) (arc := nw_arc N) (m0 := 0) (m1 := 1000) (fun i L h => by rw [h.2]; omega) (fun i w j ha => (nw_arcb hW ha).2.2.2) hB.1
              have h7 := hx.2 _ k' L hbn.2.1 hB.1
              omega
            rw [this]
            rfl
          · refine nw_ks_no h hz _ (fun y hy => ?_)
            obtain ⟨p, hp, rfl⟩ := List.mem_map.mp hy
            obtain ⟨h1, h2, h3, h4, k, hR⟩ := nw_pp_ok hW _ _ _ p hp
            have h5 := hx.2 _ _ _ hbn.2.1 hR
            have h6 : x (nw_e N e) * 2 ^ 45 ≤ nw_sl N p * 2 ^ 45 := Nat.mul_le_mul_right _ h5
            unfold nw_kb
            omega
theorem nw_expl (hW : nw_W N) {x : Nat → Nat} {cur : Nat} (hto : to < 10) (hx : nw_ds N to x) (hcb : cur < 2 ^ 62) : ∀ (f n v : Nat) (V : Nat → Bool) (mask : Int32) (b d : Nat) (σ : jv_S) (pg : List Nat), f ≤ n → d + f ≤ 9 → nw_cv to V < f → (∀ w, w < 10 → bt mask w = V w) → V to = false → v < 10 → b ≤ d * (1001 * 2 ^ 45) → nw_eE N to x cur σ → nw_pg σ pg → pg.Pairwise (fun a b => a ≤ b) →
    ∃ τ pg', f_X5_explore n σ (nI v) mask (lN b) (nI d) = some τ ∧ nw_f nw_pP σ τ ∧ nw_pg τ pg' ∧ pg'.Pairwise (fun a b => a ≤ b) ∧ nw_ks cur pg ((nw_pp N to f V v).map (nw_kb N b d)) pg' := by
  intro f
  induction f with
  | zero => intro n v V mask b d σ pg h1 h2 h3; omega
  | succ f ih =>
    intro n v V mask b d σ pg h1 h2 h3 hm hVt hv hb hE hpg hso
    obtain ⟨n', rfl⟩ : ∃ n', n = n' + 1 := ⟨n - 1, by omega⟩
    rw [f_X5_explore]
    dsimp only
    rw [if_pos (show nI d < (9 : Int32) from nI_lt (b := 9) (by omega) (by omega))]
    have hln : (nw_oe N v).length ≤ 24 := by
      have hps := nw_pv_s (N := N) (v := v)
      have hpl := nw_pv_le (N := N) (v := v + 1)
      have hn := hW.n
      omega
    obtain ⟨τ, pg', z, g1, g2, g3, g4, g5⟩ := nw_exp_lp hW hto hx hcb (f := f) (V := V) (v := v) (b := b) (d := d) (mask := mask) (rec := f_X5_explore n') hv hm hVt (by omega) hb (fun σ pg e b' hE hpg hso hem c3 c1 hb' => by
      have hbn := hW.e hem
      refine ih n' _ _ _ _ _ σ pg (by omega) (by omega) ?_ (fun w hw => ?_) ?_ hbn.2.1 hb' hE hpg hso
      · have := nw_cv_lt hbn.2.1 c1 c3; omega
      · rw [nw_or1 (by omega) (by omega), hm w hw]
        rw [show (w == nw_e N e) = decide (w = nw_e N e) from rfl]
      · simp [hVt]; exact fun h => c3 h.symm) (nw_oe N v) [] jv_fuel σ pg rfl (nw_fu (by omega)) hE hpg hso
    rw [nw_st hE.2.1 hv]
    have g1' : f_X5_explore_lp22 (f_X5_explore n') (nI v) mask (lN b) (nI d) jv_fuel (nI (nw_pv N v)) σ = some (z, τ) := g1
    rw [g1', nw_bd]
    exact ⟨τ, pg', rfl, g2, g3, g4, g5⟩
/-- all paths, in the order of their edges -/
def nw_ap (N : nw_N) (fr to : Nat) : List (List Nat) := nw_pp N to 9 (fun w => w == fr) fr
theorem nw_ap_gp (hW : nw_W N) {fr : Nat} : nw_gp (nw_ap N fr to) := ⟨nw_pp_lx _ _ _, fun p hp => by
  obtain ⟨h1, h2, h3, -⟩ := nw_pp_ok hW _ _ _ p hp
  exact ⟨h1, h2, fun e he => Nat.lt_of_lt_of_le (h3 e he) hW.n.2.2⟩⟩
theorem nw_cv0 {fr : Nat} (h1 : fr < 10) (h2 : to < 10) (h : fr ≠ to) : nw_cv to (fun w => w == fr) < 9 := by
  have : ∀ a, a < 10 → ∀ b, b < 10 → a ≠ b → nw_cv b (fun w => w == a) < 9 := by decide +kernel
  exact this fr h1 to h2 h
theorem nw_kb0 {p : List Nat} : nw_kb N 0 0 p = nw_key N p := by
  unfold nw_kb nw_key
  rw [Nat.zero_add]
def nw_pP2 (k j : Nat) : Bool := (k == 10 && (j == 3 || j == 4)) || k == 11 || k == 13
theorem nw_turn (hW : nw_W N) {σ : jv_S} {fr cur : Nat} (hC : nw_C0 N σ) (hD : nw_C1 N σ) (hfr : fr < 10) (hto : to < 10) (hne : fr ≠ to) (h5 : σ.1 10 5 = nI fr) (h6 : σ.1 10 6 = nI to) (h8 : σ.2 10 8 = lN cur) (hcb : cur < 2 ^ 62) :
    ∃ τ pg, f_X5_turnPage σ = some τ ∧ nw_f nw_pP2 σ τ ∧ nw_pg τ pg ∧ τ.1 10 4 = nI 0 ∧ nw_pgI cur (fun k => ∃ p, p ∈ nw_ap N fr to ∧ k = nw_key N p) pg := by
  have hf1 : nw_f (fun k j => k == 10 && (j == 3 || j == 4)) σ (jv_si (jv_si σ 10 3 (0 : Int32)) 10 4 (0 : Int32)) := (nw_f.rfl.si (by rfl)).si (by rfl)
  have hk1 : ∀ k j, nw_pC k j = true → (jv_si (jv_si σ 10 3 (0 : Int32)) 10 4 (0 : Int32)).1 k j = σ.1 k j := fun k j hk => by
    simp only [nw_pC, Bool.or_eq_true, Bool.and_eq_true, beq_iff_eq] at hk
    rw [nw_gn (by omega), nw_gn (by omega)]
  obtain ⟨τ, x, g1, g2, g3, g4⟩ := nw_measure hW (a := 13) (by omega) (hC.keep hk1) (hD.keep (by rw [nw_gn (by decide), nw_gn (by decide)]) (by rw [nw_gn (by decide), nw_gn (by decide)])) hto
  have hE : nw_eE N to x cur τ := ⟨nw_keepC (by omega) g2 (hC.keep hk1), nw_keepD (by omega) g2 (hD.keep (by rw [nw_gn (by decide), nw_gn (by decide)]) (by rw [nw_gn (by decide), nw_gn (by decide)])), by rw [g2.row (by decide), nw_gj (by decide), nw_gj (by decide), h6], g3, by rw [(g2 10 8 rfl).2, nw_g2, nw_g2, h8]⟩
  have hpg : nw_pg τ [] := ⟨by simp, by rw [g2.row (by decide), nw_gj (by decide), nw_gs]; rfl, by simp, by simp⟩
  obtain ⟨ρ, pg, k1, k2, k3, k4, k5⟩ := nw_expl hW hto g4 hcb 9 12 fr (fun w => w == fr) ((1 : Int32) <<< (nI fr &&& 31)) 0 0 τ [] (by omega) (by omega) (nw_cv0 hfr hto hne) (fun w hw => by rw [nw_sh (by omega) (by omega)]; rfl) (by simp; exact fun h => hne h.symm) hfr (by omega) hE hpg List.Pairwise.nil
  have k1' : f_X5_explore 12 τ (nI fr) ((1 : Int32) <<< (nI fr &&& 31)) (0 : Int64) (0 : Int32) = some ρ := k1
  refine ⟨ρ, pg, ?_, ?_, k3, ?_, ?_⟩
  · unfold f_X5_turnPage
    rw [h6, g1, nw_bd, g2.row (by decide), nw_gj (by decide), nw_gj (by decide), h5, k1']
    rfl
  · refine (hf1.mono (fun k j h => ?_)).trans ((g2.mono (fun k j h => ?_)).trans (k2.mono (fun k j h => ?_)))
    all_goals
      simp only [nw_pP2, nw_pP, nw_r, Bool.or_eq_false_iff, Bool.and_eq_false_iff] at h ⊢
    · exact h.1.1
    · exact h.2
    · exact ⟨h.1.1.imp id (fun h => h.1), h.1.2⟩
  · rw [(k2 10 4 rfl).1, g2.row (by decide), nw_gs]; rfl
  · have hgp := nw_ap_gp (to := to) hW (fr := fr)
    have := nw_pg_all _ [] pg (fun _ => False) ⟨List.Pairwise.nil, by simp, by simp, fun k h => absurd h id⟩ k5 (fun _ _ => id) (by
      rw [List.pairwise_map]
      refine List.Pairwise.imp_of_mem (fun {a b} ha hb hab h => ?_) hgp.1
      rw [nw_kb0, nw_kb0] at h
      have e := nw_key_inj hgp ha hb h
      subst e
      have := nw_lx_dg 9 a a hab (hgp.2 a ha).1 (hgp.2 a ha).2.2
      omega)
    obtain ⟨q1, q2, q3, q4⟩ := this
    refine ⟨q1, q2, fun k hk => ?_, fun k hk hc => q4 k ?_ hc⟩
    · obtain ⟨h, h'⟩ := q3 k hk
      refine ⟨?_, h'⟩
      rcases h with h | h
      · exact h.elim
      · obtain ⟨p, hp, rfl⟩ := List.mem_map.mp h
        exact ⟨p, hp, nw_kb0⟩
    · obtain ⟨p, hp, rfl⟩ := hk
      exact Or.inr (List.mem_map.mpr ⟨p, hp, nw_kb0⟩)
end NWX
