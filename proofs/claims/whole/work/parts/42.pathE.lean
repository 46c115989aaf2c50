/-! ===== the digits of a path's number ===== -/
def nw_dd (p : List Nat) (i : Nat) : Nat := match p[i]? with
  | some e => e + 1
  | none => 0
theorem nw_dig : ∀ (k : Nat) (p : List Nat) (i M : Nat), i < k → (∀ e ∈ p, e < 24) → (M * 32 ^ k + nw_dg k p) / 32 ^ (k - 1 - i) % 32 = nw_dd p i := by
  intro k
  induction k with
  | zero => intro p i M h; omega
  | succ k ih =>
    intro p i M hi hp
    have hpos : 0 < 32 ^ k := Nat.pow_pos (by omega)
    cases p with
    | nil =>
      rw [nw_dg_nil, Nat.add_zero]
      cases i with
      | zero =>
        rw [show k + 1 - 1 - 0 = k by omega, Nat.pow_succ, ← Nat.mul_assoc, Nat.mul_right_comm, Nat.mul_div_cancel _ hpos, Nat.mul_mod_left]
        rfl
      | succ i =>
        have := ih [] i (M * 32) (by omega) (by simp)
        rw [nw_dg_nil, Nat.add_zero] at this
        rw [show k + 1 - 1 - (i + 1) = k - 1 - i by omega, Nat.pow_succ, Nat.mul_comm (32 ^ k), ← Nat.mul_assoc]
        exact this
    | cons e p =>
      have hp' : ∀ e ∈ p, e < 24 := fun x hx => hp x (List.mem_cons_of_mem _ hx)
      have he := hp e List.mem_cons_self
      have e1 : M * 32 ^ (k + 1) + nw_dg (k + 1) (e :: p) = (M * 32 + (e + 1)) * 32 ^ k + nw_dg k p := by
        show M * 32 ^ (k + 1) + ((e + 1) * 32 ^ k + nw_dg k p) = _
        rw [Nat.pow_succ, Nat.add_mul (M * 32), Nat.mul_comm (32 ^ k), ← Nat.mul_assoc]
        omega
      rw [e1]
      cases i with
      | zero =>
        have hlt := nw_dg_lt k p hp'
        rw [show k + 1 - 1 - 0 = k by omega, Nat.mul_comm _ (32 ^ k), Nat.mul_add_div hpos, Nat.div_eq_of_lt hlt]
        show (M * 32 + (e + 1) + 0) % 32 = e + 1
        omega
      | succ i =>
        have := ih p i (M * 32 + (e + 1)) (by omega) hp'
        rw [show k + 1 - 1 - (i + 1) = k - 1 - i by omega, this]
        unfold nw_dd
        rw [List.getElem?_cons_succ]
theorem nw_key_b {N : nw_N} {p : List Nat} (hW : nw_W N) (h1 : p.length ≤ 9) (h2 : ∀ e ∈ p, e < nw_m N) : nw_key N p < 2 ^ 62 ∧ nw_key N p / 2 ^ 45 = nw_sl N p ∧ nw_sl N p ≤ 9000 := by
  have h3 := nw_slb hW p h2
  have h4 := nw_dg_lt 9 p (fun e he => Nat.lt_of_lt_of_le (h2 e he) hW.n.2.2)
  have e : 32 ^ 9 = 2 ^ 45 := by decide
  unfold nw_key
  omega
theorem nw_curE {N : nw_N} {σ : jv_S} {p : List Nat} (hW : nw_W N) (h1 : p.length ≤ 9) (h2 : ∀ e ∈ p, e < nw_m N) (h8 : σ.2 10 8 = lN (nw_key N p)) {i : Nat} (hi : i < 9) : f_X5_currentEdge σ (nI i) = nI (nw_dd p i) - 1 := by
  obtain ⟨b1, b2, b3⟩ := nw_key_b hW h1 h2
  unfold f_X5_currentEdge f_X5_slotShift
  rw [if_neg (nI_pos (by omega)), if_pos (show nI i < (9 : Int32) from nI_lt (b := 9) hi (by omega)), h8, show (8 : Int32) = nI 8 from rfl, show (5 : Int32) = nI 5 from rfl, show (31 : Int64) = lN (2 ^ 5 - 1) from rfl, pk_sub (by omega), pk_mul, wb_shr (by omega) (by omega), wb_mask (k := 5) (Nat.lt_of_le_of_lt (Nat.div_le_self _ _) (by omega)) (by omega), lN_i]
  have := nw_dig 9 p i (nw_sl N p) hi (fun e he => Nat.lt_of_lt_of_le (h2 e he) hW.n.2.2)
  rw [show 9 - 1 - i = 8 - i by omega, show 32 ^ 9 = 2 ^ 45 by decide, show 32 ^ (8 - i) = 2 ^ ((8 - i) * 5) by rw [show 32 = 2 ^ 5 by decide, ← Nat.pow_mul, Nat.mul_comm]] at this
  rw [← this]
  rfl
theorem nw_m1 : nI 0 - 1 = (-1 : Int32) := by decide
theorem nw_nm1 {x : Nat} (h : x < 2 ^ 31) : nI x ≠ (-1 : Int32) := fun e => by
  have := congrArg Int32.toInt e
  rw [nI_toInt h, show (-1 : Int32).toInt = -1 by decide] at this
  omega
theorem nw_curI {N : nw_N} {σ : jv_S} {p : List Nat} (hW : nw_W N) (h1 : p.length ≤ 9) (h2 : ∀ e ∈ p, e < nw_m N) (h8 : σ.2 10 8 = lN (nw_key N p)) {i x : Nat} (hx : p[i]? = some x) : f_X5_currentEdge σ (nI i) = nI x := by
  have : i < p.length := (List.getElem?_eq_some_iff.mp hx).1
  rw [nw_curE hW h1 h2 h8 (by omega)]
  unfold nw_dd
  rw [hx]
  exact nI_pred x
theorem nw_curO {N : nw_N} {σ : jv_S} {p : List Nat} (hW : nw_W N) (h1 : p.length ≤ 9) (h2 : ∀ e ∈ p, e < nw_m N) (h8 : σ.2 10 8 = lN (nw_key N p)) {i : Nat} (hi : i < 9) (hx : p.length ≤ i) : f_X5_currentEdge σ (nI i) = (-1 : Int32) := by
  rw [nw_curE hW h1 h2 h8 hi]
  unfold nw_dd
  rw [List.getElem?_eq_none hx]
  exact nw_m1
theorem nw_size_lp {N : nw_N} {σ : jv_S} {p : List Nat} (hW : nw_W N) (h1 : p.length ≤ 9) (h2 : ∀ e ∈ p, e < nw_m N) (h8 : σ.2 10 8 = lN (nw_key N p)) : ∀ (k i fuel : Nat), i + k = p.length → k < fuel → f_X5_currentSize_lp2 fuel (nI i) σ = some (nI p.length) := by
  intro k
  induction k with
  | zero =>
    intro i fuel hi hf
    obtain ⟨f, rfl⟩ := nw_f0 hf
    have hi : i = p.length := by omega
    subst hi
    rw [f_X5_currentSize_lp2]
    by_cases c : 9 ≤ p.length
    · rw [if_pos (show (9 : Int32) ≤ nI p.length from nI_le (a := 9) c (by omega))]
    · rw [if_neg (show ¬ (9 : Int32) ≤ nI p.length from nI_ge (b := 9) (by omega) (by omega)), if_pos (nw_curO hW h1 h2 h8 (by omega) (Nat.le_refl _))]
  | succ k ih =>
    intro i fuel hi hf
    obtain ⟨f, rfl, hg⟩ := nw_fe hf
    have hx : p[i]? = some p[i] := List.getElem?_eq_getElem (by omega)
    have hb := h2 _ (List.mem_of_getElem? hx)
    have hn := hW.n
    rw [f_X5_currentSize_lp2, if_neg (show ¬ (9 : Int32) ≤ nI i from nI_ge (b := 9) (by omega) (by omega)), nw_curI hW h1 h2 h8 hx, if_neg (nw_nm1 (by omega)), nI_1]
    exact ih (i + 1) f (by omega) hg
theorem nw_size {N : nw_N} {σ : jv_S} {p : List Nat} (hW : nw_W N) (h1 : p.length ≤ 9) (h2 : ∀ e ∈ p, e < nw_m N) (h8 : σ.2 10 8 = lN (nw_key N p)) : f_X5_currentSize σ = some (nI p.length) := by
  unfold f_X5_currentSize
  rw [show (0 : Int32) = nI 0 from rfl, nw_size_lp hW h1 h2 h8 p.length 0 jv_fuel (by omega) (nw_fu (by omega)), nw_bd]
theorem nw_curL {N : nw_N} {σ : jv_S} {p : List Nat} (hW : nw_W N) (h1 : p.length ≤ 9) (h2 : ∀ e ∈ p, e < nw_m N) (h8 : σ.2 10 8 = lN (nw_key N p)) : f_X5_currentLength σ = nI (nw_sl N p) := by
  obtain ⟨b1, b2, b3⟩ := nw_key_b hW h1 h2
  unfold f_X5_currentLength
  rw [h8, show (45 : Int32) = nI 45 from rfl, wb_shr (by omega) (by omega), lN_i, b2]
/-! ===== drawing paths: the class ===== -/
def nw_rs (N : nw_N) (l : List (List Nat)) (cur : Nat) (rest : List Nat) : Prop := rest.Pairwise (fun a b => a < b) ∧ (∀ k ∈ rest, (∃ p, p ∈ l ∧ k = nw_key N p) ∧ cur < k) ∧ ∀ p ∈ l, cur < nw_key N p → nw_key N p ∈ rest ∨ ∀ y ∈ rest, y < nw_key N p
/-- the class's draw stands at cur -/
def nw_CP (N : nw_N) (fr to cur drawn : Nat) (σ : jv_S) : Prop := ∃ pg nx, σ.1 10 5 = nI fr ∧ σ.1 10 6 = nI to ∧ σ.1 10 7 = nI drawn ∧ σ.2 10 8 = lN cur ∧ nw_pg σ pg ∧ σ.1 10 4 = nI nx ∧ nx ≤ pg.length ∧ nw_rs N (nw_ap N fr to) cur (pg.drop nx)
def nw_pA (k j : Nat) : Bool := (k == 10 && (j == 3 || j == 4 || j == 7 || j == 8)) || k == 11 || k == 13
theorem nw_pA_of {σ τ : jv_S} (h : nw_f nw_pP2 σ τ) : nw_f nw_pA σ τ := h.mono (fun k j h => by
  simp only [nw_pA, nw_pP2, Bool.or_eq_false_iff, Bool.and_eq_false_iff] at h ⊢
  exact ⟨⟨h.1.1.imp id (fun h => h.1.1), h.1.2⟩, h.2⟩)
theorem nw_gm_ap {N : nw_N} (hW : nw_W N) {fr to : Nat} : nw_gm N (nw_ap N fr to) := ⟨nw_ap_gp hW, fun p hp => (nw_pp_ok hW _ _ _ p hp).2.2.1⟩
theorem nw_adv2 {N : nw_N} (hW : nw_W N) {fr to cur drawn nx : Nat} {pg : List Nat} {σ : jv_S} (h5 : σ.1 10 5 = nI fr) (h6 : σ.1 10 6 = nI to) (h7 : σ.1 10 7 = nI drawn) (hpg : nw_pg σ pg) (h4 : σ.1 10 4 = nI nx) (hrs : nw_rs N (nw_ap N fr to) cur (pg.drop nx)) (hlt : nx < pg.length) :
    ∃ τ p, (if (σ.1 10 4) < (σ.1 10 3) then (some (true, (jv_si (jv_si (jv_sl σ 10 8 (jv_rd (σ.2 11) 16 0 (σ.1 10 4))) 10 4 ((σ.1 10 4) + (1 : Int32))) 10 7 ((σ.1 10 7) + (1 : Int32))))) else (some (false, σ))) = some (true, τ) ∧ nw_f nw_pA σ τ ∧ p ∈ nw_ap N fr to ∧ cur < nw_key N p ∧ (∀ q ∈ nw_ap N fr to, cur < nw_key N q → nw_key N p ≤ nw_key N q) ∧ nw_CP N fr to (nw_key N p) (drawn + 1) τ := by
  obtain ⟨q1, q2, q3, q4⟩ := id hpg
  obtain ⟨r1, r2, r3⟩ := hrs
  rw [List.drop_eq_getElem_cons hlt] at r1 r2 r3
  have hz : pg[nx]? = some pg[nx] := List.getElem?_eq_getElem hlt
  obtain ⟨⟨p, hp, hk⟩, hc⟩ := r2 pg[nx] List.mem_cons_self
  rw [hk] at hc
  rw [List.pairwise_cons] at r1
  refine ⟨_, p, by rw [h4, q2, if_pos (nI_lt hlt (by omega)), nw_rd (by omega) (by omega), q3 nx _ hz, nI_1], ((nw_f.rfl.sl (by rfl)).si (by rfl)).si (by rfl), hp, hc, fun q hq hcq => ?_, pg, nx + 1, ?_, ?_, ?_, ?_, ⟨q1, ?_, ?_, q4⟩, ?_, hlt, ?_, fun k hk' => ?_, fun q hq hcq => ?_⟩
  · rcases r3 q hq hcq with h | h
    · rcases List.mem_cons.mp h with h | h
      · rw [← hk, ← h]; exact Nat.le_refl _
      · have := r1.1 _ h; omega
    · have := h pg[nx] List.mem_cons_self; omega
  · rw [nw_gj (by decide), nw_gj (by decide), nw_h1, h5]
  · rw [nw_gj (by decide), nw_gj (by decide), nw_h1, h6]
  · rw [nw_gs, h7, nI_1]
  · rw [nw_g2, nw_g2, nw_hs, hk]
  · rw [nw_gj (by decide), nw_gj (by decide), nw_h1, q2]
  · intro i x hx
    rw [nw_g2, nw_g2, nw_hn (by decide), q3 i x hx]
  · rw [nw_gj (by decide), nw_gs]
  · exact r1.2
  · refine ⟨(r2 k (List.mem_cons_of_mem _ hk')).1, ?_⟩
    rw [← hk]
    exact r1.1 k hk'
  · rcases r3 q hq (by omega) with h | h
    · rcases List.mem_cons.mp h with h | h
      · omega
      · exact Or.inl h
    · exact Or.inr (fun y hy => h y (List.mem_cons_of_mem _ hy))
theorem nw_adv {N : nw_N} (hW : nw_W N) {fr to cur drawn : Nat} {σ : jv_S} (hC : nw_C0 N σ) (hD : nw_C1 N σ) (hfr : fr < 10) (hto : to < 10) (hne : fr ≠ to) (hcb : cur < 2 ^ 62) (h : nw_CP N fr to cur drawn σ) :
    (∃ τ p, f_X5_advance σ = some (true, τ) ∧ nw_f nw_pA σ τ ∧ p ∈ nw_ap N fr to ∧ cur < nw_key N p ∧ (∀ q ∈ nw_ap N fr to, cur < nw_key N q → nw_key N p ≤ nw_key N q) ∧ nw_CP N fr to (nw_key N p) (drawn + 1) τ) ∨
    (∃ τ, f_X5_advance σ = some (false, τ) ∧ nw_f nw_pA σ τ ∧ (∀ q ∈ nw_ap N fr to, ¬ cur < nw_key N q) ∧ nw_CP N fr to cur drawn τ) := by
  obtain ⟨pg, nx, h5, h6, h7, h8, hpg, h4, hle, hrs⟩ := h
  unfold f_X5_advance
  have hp16 := hpg.1
  by_cases c : nx < pg.length
  · rw [h4, hpg.2.1, if_pos (nI_lt c (by omega)), nw_bd]
    exact Or.inl (nw_adv2 hW h5 h6 h7 hpg h4 hrs c)
  · rw [h4, hpg.2.1, if_neg (nI_nlt (by omega) (by omega))]
    obtain ⟨τ, pg', g1, g2, g3, g4, g5⟩ := nw_turn hW hC hD hfr hto hne h5 h6 h8 hcb
    rw [g1, nw_bd, nw_bd]
    obtain ⟨i1, i2, i3, i4⟩ := g5
    have hrs' : nw_rs N (nw_ap N fr to) cur (pg'.drop 0) := ⟨i1, fun k hk => i3 k hk, fun p hp hc => (i4 _ ⟨p, hp, rfl⟩ hc).imp id (fun h => h.2)⟩
    have k5 : τ.1 10 5 = nI fr := by rw [(g2 10 5 rfl).1, h5]
    have k6 : τ.1 10 6 = nI to := by rw [(g2 10 6 rfl).1, h6]
    have k7 : τ.1 10 7 = nI drawn := by rw [(g2 10 7 rfl).1, h7]
    have k8 : τ.2 10 8 = lN cur := by rw [(g2 10 8 rfl).2, h8]
    by_cases c2 : 0 < pg'.length
    · obtain ⟨ρ, p, q1, q2, q3⟩ := nw_adv2 hW k5 k6 k7 g3 g4 hrs' c2
      exact Or.inl ⟨ρ, p, q1, (nw_pA_of g2).trans q2, q3⟩
    · have hnil : pg' = [] := List.length_eq_zero_iff.mp (by omega)
      subst hnil
      refine Or.inr ⟨τ, ?_, nw_pA_of g2, fun q hq hc => ?_, [], 0, k5, k6, k7, k8, g3, g4, by simp, hrs'⟩
      · rw [g4, g3.2.1, if_neg (by decide)]
      · rcases i4 _ ⟨q, hq, rfl⟩ hc with h | h
        · simp at h
        · simp at h
/-! ===== drawing paths: the reference ===== -/
theorem nw_ga {N : nw_N} (hW : nw_W N) {σ : jv_S} (hM : nw_M N σ) {fr to most cur drawn : Nat} {dr : Bool} {path : List Nat} {best : Option (List Nat)} (hfr : fr < 10) (hto : to < 10) (hne : fr ≠ to) (hmo : most ≤ 100000) (hdr : dr = true → nw_RB N (nw_ap N fr to) best σ ∧ nw_RP N (nw_ap N fr to) cur drawn path σ) :
    ∃ τ, f_X8_goesAlong σ (nI fr) (nI to) (nI most) (jv_b dr) = some (nI ((nw_ap N fr to).countP (fun p => decide (nw_sl N p ≤ most))), τ) ∧ nw_f nw_pG σ τ ∧ (dr = true → nw_RB N (nw_ap N fr to) ((nw_ap N fr to).foldl (nw_mb N cur) best) τ) := by
  have hf1 : nw_f nw_pG σ (jv_si (jv_si (jv_si σ 44 0 (nI fr)) 45 0 (0 : Int32)) 46 0 (0 : Int32)) := ((nw_f.rfl.si (by rfl)).si (by rfl)).si (by rfl)
  obtain ⟨c, σ', met', g1, g2, g3, g4, g5, g6⟩ := nw_along hW (nw_gm_ap hW (fr := fr) (to := to)) (to := to) (most := most) (cur := cur) (drawn := drawn) (dr := dr) (path := path) hto hmo 9 0 0 0 fr (fun w => w == fr) ((1 : Int32) <<< (nI fr &&& 31)) [] best (jv_si (jv_si (jv_si σ 44 0 (nI fr)) 45 0 (0 : Int32)) 46 0 (0 : Int32)) (by omega) (nw_cv0 hfr hto hne) ⟨rfl, fun w hw => by rw [nw_sh (by omega) (by omega)]; rfl, by simp; exact fun h => hne h.symm, hfr, hf1.keepM hM nw_pG_M, by rw [nw_gn (by decide), nw_gn (by decide), nw_gs], by rw [nw_gn (by decide), nw_gs]; rfl, by rw [nw_gs]; rfl, rfl, by omega, by intro i x hx; simp at hx, fun p hp => hp, fun h => ⟨(hdr h).1.keep (by rw [nw_gn (by decide), nw_gn (by decide), nw_gn (by decide)]) (by rw [nw_gn (by decide), nw_gn (by decide), nw_gn (by decide)]) (by rw [nw_gn (by decide), nw_gn (by decide), nw_gn (by decide)]), (hdr h).2.keep (fun i hi => by rw [nw_gn (by decide), nw_gn (by decide), nw_gn (by decide)]) (by rw [nw_gn (by decide), nw_gn (by decide), nw_gn (by decide)])⟩⟩
  have hcb : c + 1 ≤ jv_fuel := by
    have h1 : nw_cst 9 ≤ 100000000000000000000000000 := by decide
    have h2 := nw_fu (k := c) (by omega)
    omega
  obtain ⟨F, hF⟩ : ∃ F, jv_fuel = (F + 1) + c := ⟨jv_fuel - c - 1, by omega⟩
  refine ⟨σ', ?_, hf1.trans g4, fun h => ?_⟩
  · unfold f_X8_goesAlong
    rw [show jv_ck (0 : Int32) 10 = true by decide, show (0 : Int32).toNatClampNeg = 0 from rfl]
    simp only [if_true]
    have g2' := g2 (F + 1)
    rw [← hF] at g2'
    rw [show (f_X8_goesAlong_lp32 (nI to) (nI most) (jv_b dr) jv_fuel (0 : Int32) (0 : Int32) ((1 : Int32) <<< (nI fr &&& 31)) (jv_si (jv_si (jv_si σ 44 0 (nI fr)) 45 0 (0 : Int32)) 46 0 (0 : Int32))) = _ from g2', f_X8_goesAlong_lp32, if_pos (show nI 0 + (-1 : Int32) < 0 by decide), nw_bd, Nat.zero_add]
    have e : (fun p => decide (0 + nw_sl N p ≤ most)) = fun p => decide (nw_sl N p ≤ most) := by funext p; rw [Nat.zero_add]
    rw [e]
    rfl
  · have := g6 h
    unfold nw_bst at this
    rw [if_pos h] at this
    have e : ∀ L : List (List Nat), L.map (fun p => [] ++ p) = L := fun L => by simp
    rw [e] at this
    exact this
theorem nw_cp91 {p : List Nat} (hl : p.length ≤ 9) : ∀ (k i fuel : Nat) (σ : jv_S), i + k = p.length → k < fuel → σ.1 35 13 = nI p.length → nw_rw (σ.1 47) p → (∀ j x, j < i → p[j]? = some x → σ.1 42 j = nI x) →
    ∃ τ z, f_X8_nextPath_lp91 fuel (nI i) σ = some (z, τ) ∧ nw_f (nw_r 42) σ τ ∧ nw_rw (τ.1 42) p := by
  intro k
  induction k with
  | zero =>
    intro i fuel σ hi hf h13 h43 h47
    obtain ⟨f, rfl⟩ := nw_f0 hf
    refine ⟨σ, nI i, by rw [f_X8_nextPath_lp91, h13, if_pos (nI_le (by omega) (by omega))], nw_f.rfl, fun j x hx => h47 j x ?_ hx⟩
    have := (List.getElem?_eq_some_iff.mp hx).1
    omega
  | succ k ih =>
    intro i fuel σ hi hf h13 h43 h47
    obtain ⟨f, rfl, hg⟩ := nw_fe hf
    rw [f_X8_nextPath_lp91, h13, if_neg (nI_ge (by omega) (by omega)), nw_ck (by omega) (by omega), nI_clamp (by omega), nI_1]
    simp only [if_true]
    obtain ⟨τ, z, g1, g2, g3⟩ := ih (i + 1) f (jv_si σ 42 i (σ.1 47 i)) (by omega) hg (by rw [nw_gn (by decide), h13]) (by rw [nw_gn (by decide)]; exact h43) (fun j x hj hx => by
      by_cases e : j = i
      · subst e; rw [nw_gs, h43 j x hx]
      · rw [nw_gj e]; exact h47 j x (by omega) hx)
    exact ⟨τ, z, g1, (nw_f.rfl.si nw_r_t).trans g2, g3⟩
def nw_pR (k j : Nat) : Bool := (k == 35 && (j == 0 || j == 12 || j == 13 || j == 14 || j == 21 || j == 22)) || (k == 42 || k == 43 || k == 44 || k == 45 || k == 46 || k == 47)
theorem nw_pR_G {σ τ : jv_S} (h : nw_f nw_pG σ τ) : nw_f nw_pR σ τ := h.mono (fun k j h => by
  simp only [nw_pR, nw_pG, Bool.or_eq_true, Bool.and_eq_true, beq_iff_eq, Bool.or_eq_false_iff, Bool.and_eq_false_iff, beq_eq_false_iff_ne] at h ⊢
  omega)
/-- the reference draws the least path behind the last one -/
theorem nw_refnext {N : nw_N} (hW : nw_W N) {σ : jv_S} (hM : nw_M N σ) {fr to cur drawn : Nat} {path : List Nat} (hfr : fr < 10) (hto : to < 10) (hne : fr ≠ to) (h9 : σ.1 35 9 = 1) (h10 : σ.1 35 10 = nI fr) (h11 : σ.1 35 11 = nI to) (hP : nw_RP N (nw_ap N fr to) cur drawn path σ) (hdb : drawn < 900) :
    (∃ τ p, f_X8_nextPath σ = some (nI (nw_sl N p), τ) ∧ τ.1 35 0 = nI 0 ∧ nw_f nw_pR σ τ ∧ p ∈ nw_ap N fr to ∧ cur < nw_key N p ∧ (∀ q ∈ nw_ap N fr to, cur < nw_key N q → nw_key N p ≤ nw_key N q) ∧ nw_RP N (nw_ap N fr to) (nw_key N p) (drawn + 1) p τ) ∨
    (∃ τ, f_X8_nextPath σ = some (nI 0, τ) ∧ τ.1 35 0 = nI 2 ∧ nw_f nw_pR σ τ ∧ (∀ q ∈ nw_ap N fr to, ¬ cur < nw_key N q) ∧ nw_RP N (nw_ap N fr to) cur drawn path τ) := by
  have hf1 : nw_f nw_pG σ (jv_si σ 35 21 (0 : Int32)) := nw_f.rfl.si (by rfl)
  have hgm := nw_gm_ap hW (fr := fr) (to := to)
  obtain ⟨τ, g1, g2, g3⟩ := nw_ga hW (hf1.keepM hM nw_pG_M) (fr := fr) (to := to) (most := 0) (cur := cur) (drawn := drawn) (dr := true) (path := path) (best := none) hfr hto hne (by omega) (fun _ => ⟨nw_gs, hP.keep (fun i hi => by rw [nw_gj (by omega)]) (by rw [nw_gn (by decide)])⟩)
  have hft := hf1.trans g2
  have hB := g3 rfl
  have hI := nw_mb_all (N := N) (cur := cur) (nw_ap N fr to) [] none (by simpa using hgm.1) (fun p hp => by simp at hp)
  have hP2 : nw_RP N (nw_ap N fr to) cur drawn path τ := hP.keep (fun i hi => (hft 35 i (by rcases hi with rfl | rfl | rfl <;> rfl)).1) (funext fun i => (hft 42 i rfl).1)
  have k9 : τ.1 35 9 = 1 := by rw [(hft 35 9 rfl).1, h9]
  unfold f_X8_nextPath
  rw [h9, if_neg (by decide), h10, h11]
  rw [show f_X8_goesAlong (jv_si σ 35 21 (0 : Int32)) (nI fr) (nI to) (0 : Int32) (1 : Int32) = _ from g1, nw_bd, nw_bd]
  simp only [k9]
  rw [if_neg (by decide)]
  cases hbest : (nw_ap N fr to).foldl (nw_mb N cur) none with
  | none =>
    rw [hbest] at hB hI
    have hB' : τ.1 35 21 = nI 0 := hB
    refine Or.inr ⟨jv_si τ 35 0 (2 : Int32), ?_, by rw [nw_gs]; rfl, (nw_pR_G hft).si (by rfl), fun q hq => hI q (by simpa using hq), hP2.keep (fun i hi => by rw [nw_gj (by omega)]) (by rw [nw_gn (by decide)])⟩
    rw [hB', if_pos (show nI 0 = 0 from rfl), nw_lt]
    unfold f_X8_holds
    rw [if_neg (show ¬ (2 : Int32) = 0 by decide), nw_lt, nw_lt]
    rfl
  | some b =>
    rw [hbest] at hB hI
    obtain ⟨b1, b2, b3, b4⟩ := hB
    obtain ⟨-, i2, i3⟩ := hI
    obtain ⟨q1, q2, q3⟩ := hgm.1.2 b b1
    refine Or.inl ?_
    rw [b2, if_neg (nI_ne0 q2 (by omega)), nw_lt]
    unfold f_X8_holds
    rw [if_pos (show (0 : Int32) = 0 from rfl), nw_lt, nw_lt]
    have e1 : (jv_si τ 35 0 (0 : Int32)).1 35 21 = nI b.length := by rw [nw_gj (by decide), b2]
    have e2 : (jv_si (jv_si τ 35 0 (0 : Int32)) 35 13 (nI b.length)).1 35 22 = nI (nw_sl N b) := by rw [nw_gj (by decide), nw_gj (by decide), b3]
    have e3 : (jv_si (jv_si (jv_si τ 35 0 (0 : Int32)) 35 13 (nI b.length)) 35 14 (nI (nw_sl N b))).1 35 12 = nI drawn := by rw [nw_gj (by decide), nw_gj (by decide), nw_gj (by decide), hP2.1]
    have e4 : (jv_si τ 35 0 (0 : Int32)).1 35 22 = nI (nw_sl N b) := by rw [nw_gj (by decide), b3]
    have e5 : (jv_si τ 35 0 (0 : Int32)).1 35 12 = nI drawn := by rw [nw_gj (by decide), hP2.1]
    simp only [if_true, e1, e2, e3, e4, e5, nI_1]
    obtain ⟨ρ, z, c1, c2, c3⟩ := nw_cp91 q1 b.length 0 jv_fuel (jv_si (jv_si (jv_si (jv_si τ 35 0 (0 : Int32)) 35 13 (nI b.length)) 35 14 (nI (nw_sl N b))) 35 12 (nI (drawn + 1))) (by omega) (nw_fu (by omega)) (by rw [nw_gj (by decide), nw_gj (by decide), nw_gs]) (by rw [nw_gn (by decide), nw_gn (by decide), nw_gn (by decide), nw_gn (by decide)]; exact b4) (fun j x hj => by omega)
    have c1' : f_X8_nextPath_lp91 jv_fuel (0 : Int32) (jv_si (jv_si (jv_si (jv_si τ 35 0 (0 : Int32)) 35 13 (nI b.length)) 35 14 (nI (nw_sl N b))) 35 12 (nI (drawn + 1))) = some (z, ρ) := c1
    have e14 : ρ.1 35 14 = nI (nw_sl N b) := by rw [c2.row (by decide), nw_gj (by decide), nw_gs]
    refine ⟨ρ, b, ?_, ?_, ?_, b1, i2, fun q hq hc => i3 q (by simpa using hq) hc, ?_, by omega, ?_, fun _ => ⟨e14, c3, b1, rfl⟩, fun h => by omega⟩
    · rw [c1', nw_bd, e14]
    · rw [c2.row (by decide), nw_gj (by decide), nw_gj (by decide), nw_gj (by decide), nw_gs]; rfl
    · refine ((((nw_pR_G hft).si (by rfl)).si (by rfl)).si (by rfl)).si (by rfl) |>.trans (c2.mono (fun k j h => ?_))
      simp only [nw_pR, nw_r, Bool.or_eq_false_iff] at h ⊢
      exact h.2.1.1.1.1.1
    · rw [c2.row (by decide), nw_gs]
    · rw [c2.row (by decide), nw_gj (by decide), nw_gj (by decide), nw_gs]
