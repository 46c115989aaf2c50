/-! ===== allowed walks: the class ===== -/
def nw_bb (N : nw_N) (to e L : Nat) : Prop := e < nw_m N ∧ nw_us N e = true ∧ nw_e N e = to ∧ L = nw_l N e
def nw_fo (N : nw_N) (e f : Nat) : Prop := f < nw_m N ∧ nw_us N f = true ∧ nw_t N f = nw_e N e ∧ nw_fb N e f = false
def nw_ba2 (N : nw_N) (e w f : Nat) : Prop := e < nw_m N ∧ nw_us N e = true ∧ nw_fo N e f ∧ w = nw_l N e
def nw_r24 (k : Nat) (σ : jv_S) (x : Nat → Nat) : Prop := ∀ e, e < 24 → σ.1 k e = nI (x e)
/-- the best that may go on from v; al: what may be taken -/
def nw_bo (x : Nat → Nat) (S : Nat → Prop) (o : Option Nat) : Prop := match o with
  | none => ∀ f, S f → 1000000000 ≤ x f
  | some b => S b ∧ x b < 1000000000 ∧ (∀ f, S f → x b ≤ x f) ∧ ∀ f, S f → f < b → x b < x f
theorem nw_bo_uniq {x : Nat → Nat} {S : Nat → Prop} {o o' : Option Nat} (h : nw_bo x S o) (h' : nw_bo x S o') : o = o' := by
  cases o with
  | none =>
    cases o' with
    | none => rfl
    | some b => have := h b h'.1; have := h'.2.1; omega
  | some b =>
    cases o' with
    | none => have := h' b h.1; have := h.2.1; omega
    | some b' =>
      have e1 := h.2.2.1 b' h'.1
      have e2 := h'.2.2.1 b h.1
      rcases Nat.lt_trichotomy b b' with c | c | c
      · have := h'.2.2.2 b h.1 c; omega
      · rw [c]
      · have := h.2.2.2 b' h'.1 c; omega
def nw_bx (x : Nat → Nat) (o : Option Nat) : Nat := match o with
  | none => 1000000000
  | some b => x b
section NWA
variable {N : nw_N} {to : Nat}
theorem nw_lenF {σ : jv_S} {x : Nat → Nat} {S : Nat → Prop} {o : Option Nat} (hx : nw_r24 33 σ x) (h : nw_bo x S o) (hS : ∀ f, S f → f < 24) : f_X0_lengthFrom σ (nw_v1 o) = nI (nw_bx x o) := by
  unfold f_X0_lengthFrom
  cases o with
  | none => rfl
  | some b =>
    have hb := hS b h.1
    show jv_lt (if nI b = (-1 : Int32) then (1000000000 : Int32) else jv_rd (σ.1 33) 24 0 (nI b)) (fun q2 => q2) = nI (x b)
    rw [if_neg (nw_nm1 (by omega)), nw_rd hb (by omega), nw_lt, hx b hb]
def nw_al2 (N : nw_N) (bf : Option Nat) (f : Nat) : Bool := match bf with
  | none => true
  | some b => !nw_fb N b f
theorem nw_bal (hW : nw_W N) {σ : jv_S} (hC : nw_C0 N σ) (hD : nw_C1 N σ) {x : Nat → Nat} (hx : nw_r24 33 σ x) (hxb : ∀ e, x e ≤ 1000000000) {v : Nat} (hv : v < 10) {bf : Option Nat} (hbf : ∀ b, bf = some b → b < nw_m N) : ∀ (l pre : List Nat) (fuel : Nat) (o : Option Nat), nw_oe N v = pre ++ l → l.length < fuel → nw_bo x (fun f => f ∈ pre ∧ nw_al2 N bf f = true) o →
    ∃ o' z1 z2, f_X0_bestAfter_lp16 (nw_v1 bf) (nI v) fuel (nw_v1 o) (nI (nw_bx x o)) (nI (nw_pv N v + pre.length)) σ = some (nw_v1 o', z1, z2) ∧ nw_bo x (fun f => f ∈ nw_oe N v ∧ nw_al2 N bf f = true) o' := by
  intro l
  have hn := hW.n
  have hpl := nw_pv_le (N := N) (v := v + 1)
  have hps := nw_pv_s (N := N) (v := v)
  induction l with
  | nil =>
    intro pre fuel o ho hf hb
    obtain ⟨f', rfl⟩ := nw_f0 hf
    have hlen := congrArg List.length ho
    simp only [List.append_nil] at hlen ho
    refine ⟨o, _, _, by rw [f_X0_bestAfter_lp16, nw_en hD hv, if_pos (nI_le (by omega) (by omega))], ?_⟩
    rw [ho]; exact hb
  | cons e l ih =>
    intro pre fuel o ho hf hb
    obtain ⟨f', rfl, hg⟩ := nw_fe (by simpa using hf)
    have hlen := congrArg List.length ho
    simp only [List.length_append, List.length_cons] at hlen
    have hat : (nw_oe N v)[pre.length]? = some e := by rw [ho]; simp
    obtain ⟨hem, het, heu⟩ := nw_oe_mem.mp (List.mem_of_getElem? hat)
    have hsort := nw_oe_lt (N := N) (v := v)
    rw [ho, List.pairwise_append] at hsort
    have hlow : ∀ f ∈ pre, f < e := fun f hf => hsort.2.2 f hf e List.mem_cons_self
    rw [f_X0_bestAfter_lp16, nw_en hD hv, if_neg (nI_ge (by omega) (by omega)), nw_out hW hD hv hat, nI_1]
    have hfor : (if nw_v1 bf = (-1 : Int32) then false else (if f_X3_isForbidden σ (nw_v1 bf) (nI e) = true then true else false)) = !nw_al2 N bf e := by
      cases bf with
      | none => rfl
      | some b =>
        have hbm := hbf b rfl
        show (if nI b = (-1 : Int32) then false else _) = !(!nw_fb N b e)
        rw [if_neg (nw_nm1 (by omega))]
        unfold f_X3_isForbidden
        show (if f_X7_hasBit σ (jv_rd (σ.1 5) 24 0 (nI b)) (nI e) = true then true else false) = _
        rw [nw_rd (by omega) (by omega), nw_hb (by omega), hC.2.2.2.2.2 b (by omega) e (by omega)]
        cases nw_fb N b e <;> rfl
    rw [hfor, nw_lt]
    have hle : f_X0_lengthFrom σ (nI e) = nI (x e) := by
      unfold f_X0_lengthFrom
      rw [if_neg (nw_nm1 (by omega)), nw_rd (by omega) (by omega), nw_lt, hx e (by omega)]
    rw [hle]
    have ho' : nw_oe N v = (pre ++ [e]) ++ l := by rw [ho]; simp
    have hbb : nw_bx x o ≤ 1000000000 := by
      cases o with
      | none => exact Nat.le_refl _
      | some b => exact hxb b
    have hstep : ∀ o', nw_bo x (fun f => f ∈ pre ++ [e] ∧ nw_al2 N bf f = true) o' → ∃ o2 z1 z2, f_X0_bestAfter_lp16 (nw_v1 bf) (nI v) f' (nw_v1 o') (nI (nw_bx x o')) (nI (nw_pv N v + pre.length + 1)) σ = some (nw_v1 o2, z1, z2) ∧ nw_bo x (fun f => f ∈ nw_oe N v ∧ nw_al2 N bf f = true) o2 := fun o' ho2 => by
      have := ih (pre ++ [e]) f' o' ho' hg ho2
      rw [List.length_append, List.length_singleton, ← Nat.add_assoc] at this
      exact this
    have hmem : ∀ f, f ∈ pre ++ [e] ↔ f ∈ pre ∨ f = e := fun f => by simp
    have hkeep : (nw_al2 N bf e = true → nw_bx x o ≤ x e) → nw_bo x (fun f => f ∈ pre ++ [e] ∧ nw_al2 N bf f = true) o := fun hc => by
      cases o with
      | none =>
        rintro f ⟨hf, ha⟩
        rcases (hmem f).mp hf with hf | rfl
        · exact hb f ⟨hf, ha⟩
        · exact hc ha
      | some b =>
        obtain ⟨q1, q2, q3, q4⟩ := hb
        refine ⟨⟨(hmem b).mpr (Or.inl q1.1), q1.2⟩, q2, fun f hf => ?_, fun f hf hlt => ?_⟩
        · rcases (hmem f).mp hf.1 with h | rfl
          · exact q3 f ⟨h, hf.2⟩
          · exact hc hf.2
        · rcases (hmem f).mp hf.1 with h | rfl
          · exact q4 f ⟨h, hf.2⟩ hlt
          · have := hlow b q1.1; omega
    cases ha : nw_al2 N bf e
    · rw [if_pos (by decide), nw_lt]
      exact hstep o (hkeep (fun h => by rw [ha] at h; cases h))
    · rw [if_neg (by decide)]
      have hxe := hxb e
      by_cases c : nw_bx x o ≤ x e
      · rw [if_pos (nI_le c (by omega)), nw_lt]
        exact hstep o (hkeep (fun _ => c))
      · rw [if_neg (nI_ge (by omega) (by omega)), nw_lt]
        refine hstep (some e) ⟨⟨(hmem e).mpr (Or.inr rfl), ha⟩, by omega, fun f hf => ?_, fun f hf hlt => ?_⟩
        · rcases (hmem f).mp hf.1 with h | rfl
          · cases o with
            | none => have := hb f ⟨h, hf.2⟩; have c' : ¬ (1000000000 : Nat) ≤ x e := c; omega
            | some b => have := hb.2.2.1 f ⟨h, hf.2⟩; have c' : ¬ x b ≤ x e := c; omega
          · exact Nat.le_refl _
        · rcases (hmem f).mp hf.1 with h | rfl
          · cases o with
            | none => have := hb f ⟨h, hf.2⟩; have c' : ¬ (1000000000 : Nat) ≤ x e := c; omega
            | some b => have := hb.2.2.1 f ⟨h, hf.2⟩; have c' : ¬ x b ≤ x e := c; omega
          · omega
theorem nw_best (hW : nw_W N) {σ : jv_S} (hC : nw_C0 N σ) (hD : nw_C1 N σ) {x : Nat → Nat} (hx : nw_r24 33 σ x) (hxb : ∀ e, x e ≤ 1000000000) {v : Nat} (hv : v < 10) {bf : Option Nat} (hbf : ∀ b, bf = some b → b < nw_m N) : ∃ o, f_X0_bestAfter σ (nw_v1 bf) (nI v) = some (nw_v1 o) ∧ nw_bo x (fun f => f ∈ nw_oe N v ∧ nw_al2 N bf f = true) o := by
  have hn := hW.n
  have hps := nw_pv_s (N := N) (v := v)
  have hpl := nw_pv_le (N := N) (v := v + 1)
  obtain ⟨o, z1, z2, g1, g2⟩ := nw_bal hW hC hD hx hxb hv hbf (nw_oe N v) [] jv_fuel none rfl (nw_fu (by omega)) (fun f hf => by simp at hf)
  refine ⟨o, ?_, g2⟩
  unfold f_X0_bestAfter
  rw [nw_st hD hv, show f_X0_bestAfter_lp16 (nw_v1 bf) (nI v) jv_fuel (-1 : Int32) (1000000000 : Int32) (nI (nw_pv N v)) σ = _ from g1, nw_bd]
theorem nw_fo_oe {e f : Nat} : (f ∈ nw_oe N (nw_e N e) ∧ nw_al2 N (some e) f = true) ↔ nw_fo N e f := by
  rw [nw_oe_mem]
  unfold nw_fo nw_al2
  constructor
  · rintro ⟨⟨h1, h2, h3⟩, h4⟩; exact ⟨h1, h3, h2, by simpa using h4⟩
  · rintro ⟨h1, h2, h3, h4⟩; exact ⟨⟨h1, h3, h2⟩, by simpa using h4⟩
theorem nw_keepC3 {σ τ : jv_S} (h : nw_f (nw_r 33) σ τ) (hC : nw_C0 N σ) : nw_C0 N τ := nw_keepC (by omega) h hC
theorem nw_keepD3 {σ τ : jv_S} (h : nw_f (nw_r 33) σ τ) (hD : nw_C1 N σ) : nw_C1 N τ := nw_keepD (by omega) h hD
theorem nw_alp (hW : nw_W N) (hto : to < 10) : ∀ (k p fuel : Nat) (c : Bool) (σ : jv_S) (x : Nat → Nat), p + k = nw_pv N 10 → k < fuel → nw_C0 N σ → nw_C1 N σ → nw_r24 33 σ x → (∀ e, x e ≤ 1000000000) → bf_V (nw_bb N to) (nw_ba2 N) 24 1000000000 x →
    ∃ τ c' x', f_X0_shortenAll_lp4 (nI to) fuel c (nI p) σ = some (c', nI (nw_pv N 10), τ) ∧ nw_f (nw_r 33) σ τ ∧ nw_r24 33 τ x' ∧ bf_V (nw_bb N to) (nw_ba2 N) 24 1000000000 x' ∧ (∀ v, x' v ≤ x v) ∧ (∀ i y, p ≤ i → (nw_ol N 10)[i]? = some y → (nw_e N y = to → x' y ≤ nw_l N y) ∧ ∀ f, nw_fo N y f → x' y ≤ nw_l N y + x f) ∧ (c' = false → c = false ∧ x' = x) := by
  intro k
  have hn := hW.n
  have h4 := nw_pv_le (N := N) (v := 10)
  induction k with
  | zero =>
    intro p fuel c σ x hp hf hC hD hr hxb hV
    obtain ⟨f, rfl⟩ := nw_f0 hf
    have hp : p = nw_pv N 10 := by omega
    subst hp
    refine ⟨σ, c, x, ?_, nw_f.rfl, hr, hV, fun v => Nat.le_refl _, fun i y hi hy => ?_, fun h => ⟨h, rfl⟩⟩
    · rw [f_X0_shortenAll_lp4, nw_tot hD, if_pos (nI_le (Nat.le_refl _) (by omega))]
    · have := (nw_outa hW hD hy).2
      omega
  | succ k ih =>
    intro p fuel c σ x hp hf hC hD hr hxb hV
    obtain ⟨f, rfl, hg⟩ := nw_fe hf
    have hlt : p < (nw_ol N 10).length := by rw [nw_ol_len]; omega
    obtain ⟨y, hy⟩ : ∃ y, (nw_ol N 10)[p]? = some y := ⟨_, List.getElem?_eq_getElem hlt⟩
    obtain ⟨hym, hyt, hyu⟩ := nw_ol_mem.mp (List.mem_of_getElem? hy)
    have he := hW.e hym
    have hxy := hxb y
    rw [f_X0_shortenAll_lp4, nw_tot hD, if_neg (nI_ge (by omega) (by omega)), (nw_outa hW hD hy).1, nw_head hW hC hym, nw_len hW hC hym, nI_1]
    have hle : f_X0_lengthFrom σ (nI y) = nI (x y) := by
      unfold f_X0_lengthFrom
      rw [if_neg (nw_nm1 (by omega)), nw_rd (by omega) (by omega), nw_lt, hr y (by omega)]
    -- what lies behind
    have hbeh : ∃ bh, (if nI (nw_e N y) = nI to then (some (0 : Int32)) else (jv_bd (f_X0_bestAfter σ (nI y) (nI (nw_e N y))) (fun q4 => some (f_X0_lengthFrom σ q4)))) = some (nI bh) ∧ bh ≤ 1000000000 ∧ (nw_e N y = to → bh = 0) ∧ (∀ g, nw_fo N y g → bh ≤ x g) ∧ (nw_l N y + bh < 1000000000 → ∃ h, bf_R (nw_bb N to) (nw_ba2 N) y h (nw_l N y + bh)) := by
      by_cases c1 : nw_e N y = to
      · refine ⟨0, by rw [if_pos (by rw [c1])]; rfl, by omega, fun _ => rfl, fun _ _ => Nat.zero_le _, fun _ => ⟨0, ?_⟩⟩
        exact bf_R.base ⟨hym, hyu, c1, rfl⟩
      · rw [if_neg (fun h => c1 ((nI_eq (by omega) (by omega)).mp h))]
        obtain ⟨o, g1, g2⟩ := nw_best hW hC hD hr hxb he.2.1 (bf := some y) (fun b hb => by cases hb; exact hym)
        rw [show f_X0_bestAfter σ (nI y) (nI (nw_e N y)) = _ from g1, nw_bd, nw_lenF hr g2 (fun f hf => by have := (nw_oe_mem.mp hf.1).1; omega)]
        refine ⟨nw_bx x o, rfl, ?_, fun h => absurd h c1, fun g hg => ?_, fun hlt => ?_⟩
        · cases o with
          | none => exact Nat.le_refl _
          | some b => exact hxb b
        · cases o with
          | none => exact g2 g (nw_fo_oe.mpr hg)
          | some b => exact g2.2.2.1 g (nw_fo_oe.mpr hg)
        · cases o with
          | none => have : nw_bx x none = 1000000000 := rfl; omega
          | some b =>
            have hb := nw_fo_oe.mp g2.1
            obtain ⟨h, hR⟩ := (hV b (by have := hb.1; omega)).2 g2.2.1
            exact ⟨h + 1, bf_R.step ⟨hym, hyu, hb, rfl⟩ hR⟩
    obtain ⟨bh, b1, b2, b3, b4, b5⟩ := hbeh
    rw [b1, nw_bd, hle, nI_add]
    by_cases c1 : x y ≤ nw_l N y + bh
    · rw [if_pos (nI_le c1 (by omega)), nw_lt]
      obtain ⟨τ, c', x', g1, g2, g3, g4, g5, g6, g7⟩ := ih (p + 1) f c σ x (by omega) hg hC hD hr hxb hV
      refine ⟨τ, c', x', g1, g2, g3, g4, g5, fun i z hi hz => ?_, g7⟩
      by_cases e : i = p
      · subst e
        rw [hy] at hz
        cases hz
        have h5 := g5 y
        refine ⟨fun h => by have := b3 h; omega, fun g hg => by have := b4 g hg; omega⟩
      · exact g6 i z (by omega) hz
    · rw [if_neg (nI_ge (by omega) (by omega)), nw_lt, nw_wr (by omega) (by omega)]
      have hf1 : nw_f (nw_r 33) σ (jv_si σ 33 y (nI (nw_l N y + bh))) := nw_f.rfl.si nw_r_t
      obtain ⟨τ, c', x', g1, g2, g3, g4, g5, g6, g7⟩ := ih (p + 1) f true (jv_si σ 33 y (nI (nw_l N y + bh))) (nw_u1 x y (nw_l N y + bh)) (by omega) hg (nw_keepC3 hf1 hC) (nw_keepD3 hf1 hD) (fun e he => by
          by_cases c : e = y
          · subst c; rw [nw_gs, nw_u1s]
          · rw [nw_gj c, nw_u1n c, hr e he]) (fun e => by
          by_cases c : e = y
          · subst c; rw [nw_u1s]; omega
          · rw [nw_u1n c]; exact hxb e) (fun e he => by
          by_cases c : e = y
          · subst c; rw [nw_u1s]; exact ⟨by omega, b5⟩
          · rw [nw_u1n c]; exact hV e he)
      have hle2 : ∀ v, nw_u1 x y (nw_l N y + bh) v ≤ x v := fun v => by
        by_cases c : v = y
        · subst c; rw [nw_u1s]; omega
        · rw [nw_u1n c]; exact Nat.le_refl _
      refine ⟨τ, c', x', g1, hf1.trans g2, g3, g4, fun v => Nat.le_trans (g5 v) (hle2 v), fun i z hi hz => ?_, fun h => absurd (g7 h).1 (by decide)⟩
      by_cases e : i = p
      · subst e
        rw [hy] at hz
        cases hz
        have h5 := g5 y
        rw [nw_u1s] at h5
        refine ⟨fun h => by have := b3 h; omega, fun g hg => by have := b4 g hg; omega⟩
      · obtain ⟨q1, q2⟩ := g6 i z (by omega) hz
        exact ⟨q1, fun g hg => by have := q2 g hg; have := hle2 g; omega⟩
theorem nw_around (hW : nw_W N) (hto : to < 10) : ∀ (k r fuel : Nat) (c : Bool) (σ : jv_S) (x : Nat → Nat), r + k = 24 → k < fuel → nw_C0 N σ → nw_C1 N σ → nw_r24 33 σ x → (∀ e, x e ≤ 1000000000) → bf_V (nw_bb N to) (nw_ba2 N) 24 1000000000 x → (0 < r → (∀ i L, i < 24 → nw_bb N to i L → x i ≤ L) ∧ bf_S (nw_bb N to) (nw_ba2 N) 24 x (r - 1)) → (c = false → bf_C (nw_bb N to) (nw_ba2 N) 24 x) →
    ∃ τ c' r' x', f_X0_measureTo_lp13 (nI to) fuel c (nI r) σ = some (c', r', τ) ∧ nw_f (nw_r 33) σ τ ∧ nw_r24 33 τ x' ∧ (∀ e, x' e ≤ 1000000000) ∧ bf_V (nw_bb N to) (nw_ba2 N) 24 1000000000 x' ∧ bf_C (nw_bb N to) (nw_ba2 N) 24 x' := by
  intro k
  have hn := hW.n
  have hab : ∀ i w j, i < 24 → nw_ba2 N i w j → j < 24 := fun i w j _ h => by have := h.2.2.1.1; omega
  induction k with
  | zero =>
    intro r fuel c σ x hr hf hC hD hp hxb hV hS hc
    obtain ⟨f, rfl⟩ := nw_f0 hf
    have hr : r = 24 := by omega
    subst hr
    refine ⟨σ, c, nI 24, x, ?_, nw_f.rfl, hp, hxb, hV, bf_top (hS (by omega)).2 (by omega)⟩
    rw [f_X0_measureTo_lp13, if_pos (show (24 : Int32) ≤ nI 24 from nI_le (Nat.le_refl _) (by omega))]
  | succ k ih =>
    intro r fuel c σ x hr hf hC hD hp hxb hV hS hc
    obtain ⟨f, rfl, hg⟩ := nw_fe hf
    rw [f_X0_measureTo_lp13, if_neg (show ¬ (24 : Int32) ≤ nI r from nI_ge (b := 24) (by omega) (by omega))]
    cases c with
    | false => exact ⟨σ, false, nI r, x, by simp, nw_f.rfl, hp, hxb, hV, hc rfl⟩
    | true =>
      rw [if_pos rfl]
      obtain ⟨τ, c', x', g1, g2, g3, g4, g5, g6, g7⟩ := nw_alp hW hto (nw_pv N 10) 0 jv_fuel false σ x (by omega) (nw_fu (by have := nw_pv_le (N := N) (v := 10); omega)) hC hD hp hxb hV
      unfold f_X0_shortenAll
      rw [show f_X0_shortenAll_lp4 (nI to) jv_fuel false (0 : Int32) σ = _ from g1, nw_bd, nw_bd, nI_1]
      have hidx : ∀ e, e < nw_m N → nw_us N e = true → ∃ i, (nw_ol N 10)[i]? = some e := fun e he hu => List.mem_iff_getElem?.mp (nw_ol_mem.mpr ⟨he, (hW.e he).1, hu⟩)
      have hbase : ∀ i L, i < 24 → nw_bb N to i L → x' i ≤ L := by
        rintro i L _ ⟨h1, h2, h3, rfl⟩
        obtain ⟨a, ha⟩ := hidx i h1 h2
        exact (g6 a i (by omega) ha).1 h3
      have harc : ∀ i w j, i < 24 → nw_ba2 N i w j → j < 24 ∧ x' i ≤ w + x j := by
        rintro i w j hi h
        obtain ⟨a, ha⟩ := hidx i h.1 h.2.1
        obtain ⟨h1, h2, h3, rfl⟩ := h
        exact ⟨by have := h3.1; omega, (g6 a i (by omega) ha).2 j h3⟩
      obtain ⟨ρ, c2, r2, x2, k1, k2, k3⟩ := ih (r + 1) f c' τ x' (by omega) hg (nw_keepC3 g2 hC) (nw_keepD3 g2 hD) g3 (fun e => Nat.le_trans (g5 e) (hxb e)) g4 (fun _ => ⟨hbase, by
        rw [Nat.add_sub_cancel]
        by_cases c0 : r = 0
        · subst c0; exact bf_S0 hbase hab
        · obtain ⟨s1, s2⟩ := hS (by omega)
          have := bf_S1 s2 (fun i _ => g5 i) s1 harc
          rwa [show r - 1 + 1 = r by omega] at this⟩) (fun h => by
        obtain ⟨-, e⟩ := g7 h
        rw [e] at hbase harc ⊢
        exact bf_fix hbase harc)
      exact ⟨ρ, c2, r2, x2, k1, g2.trans k2, k3⟩
/-- the allowed distances from each edge -/
def nw_ad (N : nw_N) (to n : Nat) (x : Nat → Nat) : Prop := bf_V (nw_bb N to) (nw_ba2 N) n 1000000000 x ∧ bf_C (nw_bb N to) (nw_ba2 N) n x
theorem nw_ameas (hW : nw_W N) (hto : to < 10) {σ : jv_S} (hC : nw_C0 N σ) (hD : nw_C1 N σ) : ∃ τ x, f_X0_measureTo σ (nI to) = some τ ∧ nw_f (nw_r 33) σ τ ∧ nw_r24 33 τ x ∧ (∀ e, x e ≤ 1000000000) ∧ nw_ad N to 24 x := by
  have hf1 : nw_f (nw_r 33) σ (jv_fl σ 33 24 (1000000000 : Int32)) := nw_f.rfl.fl (fun _ => nw_r_t)
  obtain ⟨τ, c', r', x, h1, h2, h3, h4, h5, h6⟩ := nw_around hW hto 24 0 jv_fuel true (jv_fl σ 33 24 (1000000000 : Int32)) (fun _ => 1000000000) rfl (nw_fu (by omega)) (nw_keepC3 hf1 hC) (nw_keepD3 hf1 hD) (fun e he => by rw [nw_fl, if_pos he]; rfl) (fun _ => Nat.le_refl _) (fun i hi => ⟨Nat.le_refl _, fun h => absurd h (Nat.lt_irrefl _)⟩) (fun h => absurd h (Nat.lt_irrefl _)) (fun h => by cases h)
  refine ⟨τ, x, ?_, hf1.trans h2, h3, h4, h5, h6⟩
  unfold f_X0_measureTo
  rw [show f_X0_measureTo_lp13 (nI to) jv_fuel true (0 : Int32) (jv_fl σ 33 24 (1000000000 : Int32)) = _ from h1, nw_bd]
end NWA
