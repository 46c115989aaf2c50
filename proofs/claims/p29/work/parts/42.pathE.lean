/-! ===== the digits of a path's number ===== -/
def nw_dd (p : List Nat) (i : Nat) : Nat := match p[i]? with
  | some e => e + 1
  | none => 0
theorem nw_dig : ∀ (k : Nat) (p : List Nat) (i M : Nat), i < k → (∀ e ∈ p, e < 24) → (M * 32 ^ k + nw_dg k p) / 32 ^ (k - 1 - i) % 32 = nw_dd p i := by
  intro k
  induction k with
  | zero => intro p i M h; omega
  | succ k ih =>
    intro p i M hi hp
    have hpos : 0 < 32 ^ k := Nat.pow_pos (by omega)
    cases p with
    | nil =>
      rw [nw_dg_nil, Nat.add_zero]
      cases i with
      | zero =>
        rw [show k + 1 - 1 - 0 = k by omega, Nat.pow_succ, ← Nat.mul_assoc, Nat.mul_right_comm, Nat.mul_div_cancel _ hpos, Nat.mul_mod_left]
        rfl
      | succ i =>
        have := ih [] i (M * 32) (by omega) (by simp)
        rw [nw_dg_nil, Nat.add_zero] at this
        rw [show k + 1 - 1 - (i + 1) = k - 1 - i by omega, Nat.pow_succ, Nat.mul_comm (32 ^ k), ← Nat.mul_assoc]
        exact this
    | cons e p =>
      have hp' : ∀ e ∈ p, e < 24 := fun x hx => hp x (List.mem_cons_of_mem _ hx)
      have he := hp e List.mem_cons_self
      have e1 : M * 32 ^ (k + 1) + nw_dg (k + 1) (e :: p) = (M * 32 + (e + 1)) * 32 ^ k + nw_dg k p := by
        show M * 32 ^ (k + 1) + ((e + 1) * 32 ^ k + nw_dg k p) = _
        rw [Nat.pow_succ, Nat.add_mul (M * 32), Nat.mul_comm (32 ^ k), ← Nat.mul_assoc]
        omega
      rw [e1]
      cases i with
      | zero =>
        have hlt := nw_dg_lt k p hp'
        rw [show k + 1 - 1 - 0 = k by omega, Nat.mul_comm _ (32 ^ k), Nat.mul_add_div hpos, Nat.div_eq_of_lt hlt]
        show (M * 32 + (e + 1) + 0) % 32 = e + 1
        omega
      | succ i =>
        have := ih p i (M * 32 + (e + 1)) (by omega) hp'
        rw [show k + 1 - 1 - (i + 1) = k - 1 - i by omega, this]
        unfold nw_dd
        rw [List.getElem?_cons_succ]
theorem nw_key_b {N : nw_N} {p : List Nat} (hW : nw_W N) (h1 : p.length ≤ 9) (h2 : ∀ e ∈ p, e < nw_m N) : nw_key N p < 2 ^ 62 ∧ nw_key N p / 2 ^ 45 = nw_sl N p ∧ nw_sl N p ≤ 9000 := by
  have h3 := nw_slb hW p h2
  have h4 := nw_dg_lt 9 p (fun e he => Nat.lt_of_lt_of_le (h2 e he) hW.n.2.2)
  have e : 32 ^ 9 = 2 ^ 45 := by decide
  unfold nw_key
  omega
theorem nw_curE {N : nw_N} {σ : jv_S} {p : List Nat} (hW : nw_W N) (h1 : p.length ≤ 9) (h2 : ∀ e ∈ p, e < nw_m N) (h8 : σ.2 10 8 = lN (nw_key N p)) {i : Nat} (hi : i < 9) : f_X5_currentEdge σ (nI i) = nI (nw_dd p i) - 1 := by
  obtain ⟨b1, b2, b3⟩ := nw_key_b hW h1 h2
  unfold f_X5_currentEdge f_X5_slotShift
  rw [if_neg (nI_pos (by omega)), if_pos (show nI i < (9 : Int32) from nI_lt (b := 9) hi (by omega)), h8, show (8 : Int32) = nI 8 from rfl, show (5 : Int32) = nI 5 from rfl, show (31 : Int64) = lN (2 ^ 5 - 1) from rfl, pk_sub (by omega), pk_mul, wb_shr (by omega) (by omega), wb_mask (k := 5) (Nat.lt_of_le_of_lt (Nat.div_le_self _ _) (by omega)) (by omega), lN_i]
  have := nw_dig 9 p i (nw_sl N p) hi (fun e he => Nat.lt_of_lt_of_le (h2 e he) hW.n.2.2)
  rw [show 9 - 1 - i = 8 - i by omega, show 32 ^ 9 = 2 ^ 45 by decide, show 32 ^ (8 - i) = 2 ^ ((8 - i) * 5) by rw [show 32 = 2 ^ 5 by decide, ← Nat.pow_mul, Nat.mul_comm]] at this
  rw [← this]
  rfl
theorem nw_m1 : nI 0 - 1 = (-1 : Int32) := by decide
theorem nw_nm1 {x : Nat} (h : x < 2 ^ 31) : nI x ≠ (-1 : Int32) := fun e => by
  have := congrArg Int32.toInt e
  rw [nI_toInt h, show (-1 : Int32).toInt = -1 by decide] at this
  omega
theorem nw_curI {N : nw_N} {σ : jv_S} {p : List Nat} (hW : nw_W N) (h1 : p.length ≤ 9) (h2 : ∀ e ∈ p, e < nw_m N) (h8 : σ.2 10 8 = lN (nw_key N p)) {i x : Nat} (hx : p[i]? = some x) : f_X5_currentEdge σ (nI i) = nI x := by
  have : i < p.length := (List.getElem?_eq_some_iff.mp hx).1
  rw [nw_curE hW h1 h2 h8 (by omega)]
  unfold nw_dd
  rw [hx]
  exact nI_pred x
theorem nw_curO {N : nw_N} {σ : jv_S} {p : List Nat} (hW : nw_W N) (h1 : p.length ≤ 9) (h2 : ∀ e ∈ p, e < nw_m N) (h8 : σ.2 10 8 = lN (nw_key N p)) {i : Nat} (hi : i < 9) (hx : p.length ≤ i) : f_X5_currentEdge σ (nI i) = (-1 : Int32) := by
  rw [nw_curE hW h1 h2 h8 hi]
  unfold nw_dd
  rw [List.getElem?_eq_none hx]
  exact nw_m1
theorem nw_size_lp {N : nw_N} {σ : jv_S} {p : List Nat} (hW : nw_W N) (h1 : p.length ≤ 9) (h2 : ∀ e ∈ p, e < nw_m N) (h8 : σ.2 10 8 = lN (nw_key N p)) : ∀ (k i fuel : Nat), i + k = p.length → k < fuel → f_X5_currentSize_lp2 fuel (nI i) σ = some (nI p.length) := by
  intro k
  induction k with
  | zero =>
    intro i fuel hi hf
    obtain ⟨f, rfl⟩ := nw_f0 hf
    have hi : i = p.length := by omega
    subst hi
    rw [f_X5_currentSize_lp2]
    by_cases c : 9 ≤ p.length
    · rw [if_pos (show (9 : Int32) ≤ nI p.length from nI_le (a := 9) c (by omega))]
    · rw [if_neg (show ¬ (9 : Int32) ≤ nI p.length from nI_ge (b := 9) (by omega) (by omega)), if_pos (nw_curO hW h1 h2 h8 (by omega) (Nat.le_refl _))]
  | succ k ih =>
    intro i fuel hi hf
    obtain ⟨f, rfl, hg⟩ := nw_fe hf
    have hx : p[i]? = some p[i] := List.getElem?_eq_getElem (by omega)
    have hb := h2 _ (List.mem_of_getElem? hx)
    have hn := hW.n
    rw [f_X5_currentSize_lp2, if_neg (show ¬ (9 : Int32) ≤ nI i from nI_ge (b := 9) (by omega) (by omega)), nw_curI hW h1 h2 h8 hx, if_neg (nw_nm1 (by omega)), nI_1]
    exact ih (i + 1) f (by omega) hg
theorem nw_size {N : nw_N} {σ : jv_S} {p : List Nat} (hW : nw_W N) (h1 : p.length ≤ 9) (h2 : ∀ e ∈ p, e < nw_m N) (h8 : σ.2 10 8 = lN (nw_key N p)) : f_X5_currentSize σ = some (nI p.length) := by
  unfold f_X5_currentSize
  rw [show (0 : Int32) = nI 0 from rfl, nw_size_lp hW h1 h2 h8 p.length 0 jv_fuel (by omega) (nw_fu (by omega)), nw_bd]
theorem nw_curL {N : nw_N} {σ : jv_S} {p : List Nat} (hW : nw_W N) (h1 : p.length ≤ 9) (h2 : ∀ e ∈ p, e < nw_m N) (h8 : σ.2 10 8 = lN (nw_key N p)) : f_X5_currentLength σ = nI (nw_sl N p) := by
  obtain ⟨b1, b2, b3⟩ := nw_key_b hW h1 h2
  unfold f_X5_currentLength
  rw [h8, show (45 : Int32) = nI 45 from rfl, wb_shr (by omega) (by omega), lN_i, b2]
/-! ===== drawing paths: the class ===== -/
def nw_rs (N : nw_N) (l : List (List Nat)) (cur : Nat) (rest : List Nat) : Prop := rest.Pairwise (fun a b => a < b) ∧ (∀ k ∈ rest, (∃ p, p ∈ l ∧ k = nw_key N p) ∧ cur < k) ∧ ∀ p ∈ l, cur < nw_key N p → nw_key N p ∈ rest ∨ ∀ y ∈ rest, y < nw_key N p
/-- the class's draw stands at cur -/
def nw_CP (N : nw_N) (fr to cur drawn : Nat) (σ : jv_S) : Prop := ∃ pg nx, σ.1 10 5 = nI fr ∧ σ.1 10 6 = nI to ∧ σ.1 10 7 = nI drawn ∧ σ.2 10 8 = lN cur ∧ nw_pg σ pg ∧ σ.1 10 4 = nI nx ∧ nx ≤ pg.length ∧ nw_rs N (nw_ap N fr to) cur (pg.drop nx)
def nw_pA (k j : Nat) : Bool := (k == 10 && (j == 3 || j == 4 || j == 7 || j == 8)) || k == 11 || k == 13
theorem nw_pA_of {σ τ : jv_S} (h : nw_f nw_pP2 σ τ) : nw_f nw_pA σ τ := h.mono (fun k j h => by
  simp only [nw_pA, nw_pP2, Bool.or_eq_false_iff, Bool.and_eq_false_iff] at h ⊢
  exact ⟨⟨h.1.1.imp id (fun h => h.1.1), h.1.2⟩, h.2⟩)
theorem nw_gm_ap {N : nw_N} (hW : nw_W N) {fr to : Nat} : nw_gm N (nw_ap N fr to) := ⟨nw_ap_gp hW, fun p hp => (nw_pp_ok hW _ _ _ p hp).2.2.1⟩
theorem nw_adv2 {N : nw_N} (hW : nw_W N) {fr to cur drawn nx : Nat} {pg : List Nat} {σ : jv_S} (h5 : σ.1 10 5 = nI fr) (h6 : σ.1 10 6 = nI to) (h7 : σ.1 10 7 = nI drawn) (hpg : nw_pg σ pg) (h4 : σ.1 10 4 = nI nx) (hrs : nw_rs N (nw_ap N fr to) cur (pg.drop nx)) (hlt : nx < pg.length) :
    ∃ τ p, (if (σ.1 10 4) < (σ.1 10 3) then (some (true, (jv_si (jv_si (jv_sl σ 10 8 (jv_rd (σ.2 11) 16 0 (σ.1 10 4))) 10 4 ((σ.1 10 4) + (1 : Int32))) 10 7 ((σ.1 10 7) + (1 : Int32))))) else (some (false, σ))) = some (true, τ) ∧ nw_f nw_pA σ τ ∧ p ∈ nw_ap N fr to ∧ cur < nw_key N p ∧ (∀ q ∈ nw_ap N fr to, cur < nw_key N q → nw_key N p ≤ nw_key N q) ∧ nw_CP N fr to (nw_key N p) (drawn + 1) τ := by
  obtain ⟨q1, q2, q3, q4⟩ := id hpg
  obtain ⟨r1, r2, r3⟩ := hrs
  rw [List.drop_eq_getElem_cons hlt] at r1 r2 r3
  have hz : pg[nx]? = some pg[nx] := List.getElem?_eq_getElem hlt
  obtain ⟨⟨p, hp, hk⟩, hc⟩ := r2 pg[nx] List.mem_cons_self
  rw [hk] at hc
  rw [List.pairwise_cons] at r1
  refine ⟨_, p, by rw [h4, q2, if_pos (nI_lt hlt (by omega)), nw_rd (by omega) (by omega), q3 nx _ hz, nI_1], ((nw_f.rfl.sl (by rfl)).si (by rfl)).si (by rfl), hp, hc, fun q hq hcq => ?_, pg, nx + 1, ?_, ?_, ?_, ?_, ⟨q1, ?_, ?_, q4⟩, ?_, hlt, ?_, fun k hk' => ?_, fun q hq hcq => ?_⟩
  · rcases r3 q hq hcq with h | h
    · rcases List.mem_cons.mp h with h | h
      · rw [← hk, ← h]; exact Nat.le_refl _
      · have := r1.1 _ h; omega
    · have := h pg[nx] List.mem_cons_self; omega
  · rw [nw_gj (by decide), nw_gj (by decide), nw_h1, h5]
  · rw [nw_gj (by decide), nw_gj (by decide), nw_h1, h6]
  · rw [nw_gs, h7, nI_1]
  · rw [nw_g2, nw_g2, nw_hs, hk]
  · rw [nw_gj (by decide), nw_gj (by decide), nw_h1, q2]
  · intro i x hx
    rw [nw_g2, nw_g2, nw_hn (by decide), q3 i x hx]
  · rw [nw_gj (by decide), nw_gs]
  · exact r1.2
  · refine ⟨(r2 k (List.mem_cons_of_mem _ hk')).1, ?_⟩
    rw [← hk]
    exact r1.1 k hk'
  · rcases r3 q hq (by omega) with h | h
    · rcases List.mem_cons.mp h with h | h
      · omega
      · exact Or.inl h
    · exact Or.inr (fun y hy => h y (List.mem_cons_of_mem _ hy))
theorem nw_adv {N : nw_N} (hW : nw_W N) {fr to cur drawn : Nat} {σ : jv_S} (hC : nw_C0 N σ) (hD : nw_C1 N σ) (hfr : fr < 10) (hto : to < 10) (hne : fr ≠ to) (hcb : cur < 2 ^ 62) (h : nw_CP N fr to cur drawn σ) :
    (∃ τ p, f_X5_advance σ = some (true, τ) ∧ nw_f nw_pA σ τ ∧ p ∈ nw_ap N fr to ∧ cur < nw_key N p ∧ (∀ q ∈ nw_ap N fr to, cur < nw_key N q → nw_key N p ≤ nw_key N q) ∧ nw_CP N fr to (nw_key N p) (drawn + 1) τ) ∨
    (∃ τ, f_X5_advance σ = some (false, τ) ∧ nw_f nw_pA σ τ ∧ (∀ q ∈ nw_ap N fr to, ¬ cur < nw_key N q) ∧ nw_CP N fr to cur drawn τ) := by
  obtain ⟨pg, nx, h5, h6, h7, h8, hpg, h4, hle, hrs⟩ := h
  unfold f_X5_advance
  have hp16 := hpg.1
  by_cases c : nx < pg.length
  · rw [h4, hpg.2.1, if_pos (nI_lt c (by omega)), nw_bd]
    exact Or.inl (nw_adv2 hW h5 h6 h7 hpg h4 hrs c)
  · rw [h4, hpg.2.1, if_neg (nI_nlt (by omega) (by omega))]
    obtain ⟨τ, pg', g1, g2, g3, g4, g5⟩ := nw_turn hW hC hD hfr hto hne h5 h6 h8 hcb
    rw [g1, nw_bd, nw_bd]
    obtain ⟨i1, i2, i3, i4⟩ := g5
    have hrs' : nw_rs N (nw_ap N fr to) cur (pg'.drop 0) := ⟨i1, fun k hk => i3 k hk, fun p hp hc => (i4 _ ⟨p, hp, rfl⟩ hc).imp id (fun h => h.2)⟩
    have k5 : τ.1 10 5 = nI fr := by rw [(g2 10 5 rfl).1, h5]
    have k6 : τ.1 10 6 = nI to := by rw [(g2 10 6 rfl).1, h6]
    have k7 : τ.1 10 7 = nI drawn := by rw [(g2 10 7 rfl).1, h7]
    have k8 : τ.2 10 8 = lN cur := by rw [(g2 10 8 rfl).2, h8]
    by_cases c2 : 0 < pg'.length
    · obtain ⟨ρ, p, q1, q2, q3⟩ := nw_adv2 hW k5 k6 k7 g3 g4 hrs' c2
      exact Or.inl ⟨ρ, p, q1, (nw_pA_of g2).trans q2, q3⟩
    · have hnil : pg' = [] := List.length_eq_zero_iff.mp (by omega)
      subst hnil
      refine Or.inr ⟨τ, ?_, nw_pA_of g2, fun q hq hc => ?_, [], 0, k5, k6, k7, k8, g3, g4, by simp, hrs'⟩
      · rw [g4, g3.2.1, if_neg (by decide)]
      · rcases i4 _ ⟨q, hq, rfl⟩ hc with h | h
        · simp at h
        · simp at h
/-! ===== drawing paths: the reference ===== -/
def nw_pR (k j : Nat) : Bool := (k == 35 && (j == 0 || j == 12 || j == 13 || j == 14 || j == 21 || j == 22)) || (k == 42 || k == 43 || k == 44 || k == 45 || k == 46 || k == 47)
theorem nw_pR_G {σ τ : jv_S} (h : nw_f nw_pG σ τ) : nw_f nw_pR σ τ := h.mono (fun k j h => by
  simp only [nw_pR, nw_pG, Bool.or_eq_true, Bool.and_eq_true, beq_iff_eq, Bool.or_eq_false_iff, Bool.and_eq_false_iff, beq_eq_false_iff_ne] at h ⊢
  omega)