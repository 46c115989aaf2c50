/-! ===== longs to 2^62 ===== -/
theorem nw_lT {n : Nat} (h : n < 2 ^ 62) : (lN n).toInt = (n : Int) := lg_ofNat_toInt (by omega)
theorem nw_lle {a b : Nat} (ha : a < 2 ^ 62) (hb : b < 2 ^ 62) : lN a ≤ lN b ↔ a ≤ b := by rw [Int64.le_iff_toInt_le, nw_lT ha, nw_lT hb]; omega
theorem nw_llt {a b : Nat} (ha : a < 2 ^ 62) (hb : b < 2 ^ 62) : lN a < lN b ↔ a < b := by rw [Int64.lt_iff_toInt_lt, nw_lT ha, nw_lT hb]; omega
theorem nw_leq {a b : Nat} (ha : a < 2 ^ 62) (hb : b < 2 ^ 62) : lN a = lN b ↔ a = b := by rw [← Int64.toInt_inj, nw_lT ha, nw_lT hb]; omega
theorem nw_cmp0 {a b : Nat} (ha : a < 2 ^ 62) (hb : b < 2 ^ 62) : lg_cmp (lN a) (lN b) ≤ 0 ↔ a ≤ b := by
  unfold lg_cmp
  by_cases c1 : b < a
  · rw [if_pos ((nw_llt hb ha).mpr c1)]
    exact ⟨fun h => absurd h (by decide), fun h => by omega⟩
  · rw [if_neg (fun h => c1 ((nw_llt hb ha).mp h))]
    by_cases c2 : a = b
    · rw [if_pos ((nw_leq ha hb).mpr c2)]
      exact ⟨fun _ => by omega, fun _ => by decide⟩
    · rw [if_neg (fun h => c2 ((nw_leq ha hb).mp h))]
      exact ⟨fun _ => by omega, fun _ => by decide⟩
theorem nw_cmp1 {a b : Nat} (ha : a < 2 ^ 62) (hb : b < 2 ^ 62) : 0 ≤ lg_cmp (lN a) (lN b) ↔ b ≤ a := by
  unfold lg_cmp
  by_cases c1 : b < a
  · rw [if_pos ((nw_llt hb ha).mpr c1)]
    exact ⟨fun _ => by omega, fun _ => by decide⟩
  · rw [if_neg (fun h => c1 ((nw_llt hb ha).mp h))]
    by_cases c2 : a = b
    · rw [if_pos ((nw_leq ha hb).mpr c2)]
      exact ⟨fun _ => by omega, fun _ => by decide⟩
    · rw [if_neg (fun h => c2 ((nw_leq ha hb).mp h))]
      exact ⟨fun h => absurd h (by decide), fun h => by omega⟩
theorem nw_min {a b : Nat} (ha : a < 2 ^ 31) (hb : b < 2 ^ 31) : jv_min (nI a) (nI b) = nI (min a b) := by
  unfold jv_min
  by_cases c : b < a
  · rw [if_pos (nI_lt c ha), Nat.min_eq_right (by omega)]
  · rw [if_neg (nI_nlt (by omega) hb), Nat.min_eq_left (by omega)]
theorem nw_sble {a b c : Nat} (ha : a < 2 ^ 30) (hb : b < 2 ^ 30) (hc : c < 2 ^ 30) : nI c ≤ nI a - nI b ↔ c + b ≤ a := by
  rw [fa_le, pk_sub_toInt ha hb, nI_toInt (by omega)]
  omega
theorem nw_ofL {σ : jv_S} {y : Nat} (h : y < 2 ^ 31) : f_X5_ofLength σ (nI y) = lN (y * 2 ^ 45) := by
  unfold f_X5_ofLength
  rw [nI_l h]
  exact wb_shl (k := 45) y (by omega)
theorem nw_slot {e d : Nat} (he : e < 2 ^ 31) (hd : d ≤ 8) {σ : jv_S} : ((nI e).toInt64 + (1 : Int64)) <<< ((f_X5_slotShift σ (nI d)).toInt64 &&& 63) = lN ((e + 1) * 32 ^ (8 - d)) := by
  unfold f_X5_slotShift
  rw [show (8 : Int32) = nI 8 from rfl, show (5 : Int32) = nI 5 from rfl, pk_sub hd, pk_mul, nI_l he, lN_1, wb_shl _ (by omega), Nat.mul_comm (8 - d) 5, Nat.pow_mul]
theorem nw_ds_le {N : nw_N} {to : Nat} {x : Nat → Nat} (hW : nw_W N) (h : nw_ds N to x) {v : Nat} (hv : v < 10) (hx : x v < 1000000000) : x v ≤ 9000 := by
  obtain ⟨k, hR⟩ := (h.1 v hv).2 hx
  obtain ⟨k', L, hB⟩ := bf_best _ _ hR
  have h1 := bf_hops_lt (N := 10) (fun i w j _ ha => (nw_arcb hW ha).2.1) hv hB
  have h2 := bf_len (base := nw_ba to) (arc := nw_arc N) (m0 := 0) (m1 := 1000) (fun i L h => by rw [h.2]; omega) (fun i w j ha => (nw_arcb hW ha).2.2.2) hB.1
  have h3 := h.2 v k' L hv hB.1
  omega
section NWK
variable {N : nw_N} {to : Nat}
/-! ===== the class's count ===== -/
theorem nw_cnt_lp (hW : nw_W N) {σ : jv_S} {x : Nat → Nat} (hC : nw_C0 N σ) (hD : nw_C1 N σ) (hto : to < 10) (h14 : σ.1 14 2 = nI to) (hr : nw_rp 16 σ x) (hx : nw_ds N to x) {f : Nat} {V : Nat → Bool} {v left d : Nat} {mask : Int32} {rec : jv_S → Int32 → Int32 → Int32 → Int32 → Option Int32}
    (hv : v < 10) (hm : ∀ w, w < 10 → bt mask w = V w) (hVt : V to = false) (hle : left ≤ 100000) (hrec : ∀ e, e < nw_m N → nw_e N e ≠ to → V (nw_e N e) = false → nw_l N e ≤ left → rec σ (nI (nw_e N e)) (mask ||| ((1 : Int32) <<< (nI (nw_e N e) &&& 31))) (nI (left - nw_l N e)) (nI (d + 1)) = some (nI ((nw_pp N to f (fun w => V w || w == nw_e N e) (nw_e N e)).countP (fun p => decide (nw_sl N p ≤ left - nw_l N e))))) :
    ∀ (l pre : List Nat) (fuel t : Nat), nw_oe N v = pre ++ l → l.length < fuel → ∃ z, f_X4_countFrom_lp26 rec (nI v) mask (nI left) (nI d) fuel (nI t) (nI (nw_pv N v + pre.length)) σ = some (nI (t + (l.flatMap (nw_br N to f V)).countP (fun p => decide (nw_sl N p ≤ left))), z) := by
  intro l
  have hn := hW.n
  have hpl := nw_pv_le (N := N) (v := v + 1)
  have hps := nw_pv_s (N := N) (v := v)
  induction l with
  | nil =>
    intro pre fuel t ho hf
    obtain ⟨f', rfl⟩ := nw_f0 hf
    have hlen := congrArg List.length ho
    simp only [List.append_nil] at hlen
    refine ⟨nI (nw_pv N v + pre.length), ?_⟩
    rw [f_X4_countFrom_lp26, nw_en hD hv, if_pos (nI_le (by omega) (by omega))]
    rfl
  | cons e l ih =>
    intro pre fuel t ho hf
    obtain ⟨f', rfl, hg⟩ := nw_fe (by simpa using hf)
    have hlen := congrArg List.length ho
    simp only [List.length_append, List.length_cons] at hlen
    have hat : (nw_oe N v)[pre.length]? = some e := by rw [ho]; simp
    obtain ⟨hem, het, heu⟩ := nw_oe_mem.mp (List.mem_of_getElem? hat)
    have hb := hW.e hem
    have hbx := (hx.1 _ hb.2.1).1
    rw [f_X4_countFrom_lp26, nw_en hD hv, if_neg (nI_ge (by omega) (by omega)), nw_out hW hD hv hat, nw_head hW hC hem, nw_len hW hC hem, nw_hb (by omega), hm _ hb.2.1, nw_ofN hr hb.2.1, h14, nI_1, nI_1]
    have ho' : nw_oe N v = (pre ++ [e]) ++ l := by rw [ho]; simp
    have hx0 : x to = 0 := by have := hx.2 to 0 0 hto ⟨rfl, rfl⟩; omega
    have key : ∀ c, (nw_br N to f V e).countP (fun p => decide (nw_sl N p ≤ left)) = c → ∃ z, f_X4_countFrom_lp26 rec (nI v) mask (nI left) (nI d) f' (nI (t + c)) (nI (nw_pv N v + pre.length + 1)) σ = some (nI (t + ((e :: l).flatMap (nw_br N to f V)).countP (fun p => decide (nw_sl N p ≤ left))), z) := fun c hc => by
      obtain ⟨z, hz⟩ := ih (pre ++ [e]) f' (t + c) ho' hg
      rw [List.length_append, List.length_singleton, ← Nat.add_assoc] at hz
      refine ⟨z, ?_⟩
      rw [hz, List.flatMap_cons, List.countP_append, hc, Nat.add_assoc]
    by_cases c1 : V (nw_e N e) = true
    · rw [if_pos c1, nw_bd]
      refine key 0 ?_
      unfold nw_br
      rw [if_neg (fun h => by rw [h, hVt] at c1; cases c1), if_pos c1]
      rfl
    · rw [if_neg c1]
      by_cases c2 : x (nw_e N e) + nw_l N e ≤ left
      · rw [if_pos ((nw_sble (by omega) (by omega) (by omega)).mpr c2)]
        by_cases c3 : nw_e N e = to
        · rw [if_pos (by rw [c3]), nw_bd, nw_bd, nI_1]
          refine key 1 ?_
          unfold nw_br
          rw [if_pos c3]
          have h9 : nw_sl N [e] ≤ left := by show nw_l N e + 0 ≤ left; omega
          simp [h9]
        · rw [if_neg (fun h => c3 ((nI_eq (by omega) (by omega)).mp h)), pk_sub (by omega), hrec e hem c3 (Bool.eq_false_iff.mpr c1) (by omega), nw_bd, nw_bd, nw_bd, nI_add]
          refine key _ ?_
          unfold nw_br
          rw [if_neg c3, if_neg c1, List.countP_map]
          refine List.countP_congr (fun p _ => ?_)
          show decide (nw_l N e + nw_sl N p ≤ left) = true ↔ decide (nw_sl N p ≤ left - nw_l N e) = true
          rw [decide_eq_true_eq, decide_eq_true_eq]
          omega
      · rw [if_neg (fun h => c2 ((nw_sble (by omega) (by omega) (by omega)).mp h)), nw_bd]
        refine key 0 ?_
        rw [List.countP_eq_zero]
        intro p hp
        unfold nw_br at hp
        by_cases c3 : nw_e N e = to
        · rw [if_pos c3] at hp
          rw [List.mem_singleton.mp hp]
          rw [c3] at c2
          show ¬ decide (nw_l N e + 0 ≤ left) = true
          rw [decide_eq_true_eq]
          omega
        · rw [if_neg c3, if_neg c1] at hp
          obtain ⟨q, hq, rfl⟩ := List.mem_map.mp hp
          obtain ⟨h, hR⟩ := (nw_pp_ok hW _ _ _ q hq).2.2.2.2
          have := hx.2 _ _ _ hb.2.1 hR
          show ¬ decide (nw_l N e + nw_sl N q ≤ left) = true
          rw [decide_eq_true_eq]
          omega
theorem nw_count (hW : nw_W N) {σ : jv_S} {x : Nat → Nat} (hC : nw_C0 N σ) (hD : nw_C1 N σ) (hto : to < 10) (h14 : σ.1 14 2 = nI to) (hr : nw_rp 16 σ x) (hx : nw_ds N to x) :
    ∀ (f n v : Nat) (V : Nat → Bool) (mask : Int32) (left d : Nat), f ≤ n → d + f ≤ 9 → nw_cv to V < f → (∀ w, w < 10 → bt mask w = V w) → V to = false → v < 10 → left ≤ 100000 → f_X4_countFrom n σ (nI v) mask (nI left) (nI d) = some (nI ((nw_pp N to f V v).countP (fun p => decide (nw_sl N p ≤ left)))) := by
  intro f
  induction f with
  | zero => intro n v V mask left d h1 h2 h3; omega
  | succ f ih =>
    intro n v V mask left d h1 h2 h3 hm hVt hv hle
    obtain ⟨n', rfl⟩ : ∃ n', n = n' + 1 := ⟨n - 1, by omega⟩
    rw [f_X4_countFrom]
    dsimp only
    rw [if_pos (show nI d < (9 : Int32) from nI_lt (b := 9) (by omega) (by omega))]
    have hln : (nw_oe N v).length ≤ 24 := by
      have hps := nw_pv_s (N := N) (v := v)
      have hpl := nw_pv_le (N := N) (v := v + 1)
      have hn := hW.n
      omega
    obtain ⟨z, hz⟩ := nw_cnt_lp hW hC hD hto h14 hr hx (f := f) (V := V) (v := v) (left := left) (d := d) (mask := mask) (rec := f_X4_countFrom n') hv hm hVt hle (fun e hem c3 c1 hl => by
      have hb := hW.e hem
      refine ih n' _ _ _ _ _ (by omega) (by omega) ?_ (fun w hw => ?_) ?_ hb.2.1 (by omega)
      · have := nw_cv_lt hb.2.1 c1 c3; omega
      · rw [nw_or1 (by omega) (by omega), hm w hw]
        rw [show (w == nw_e N e) = decide (w = nw_e N e) from rfl]
      · simp [hVt]; exact fun h => c3 h.symm) (nw_oe N v) [] jv_fuel 0 rfl (nw_fu (by omega))
    rw [nw_st hD hv]
    have hz' : f_X4_countFrom_lp26 (f_X4_countFrom n') (nI v) mask (nI left) (nI d) jv_fuel (0 : Int32) (nI (nw_pv N v)) σ = some (nI (0 + ((nw_oe N v).flatMap (nw_br N to f V)).countP (fun p => decide (nw_sl N p ≤ left))), z) := hz
    rw [hz', nw_bd, Nat.zero_add, nw_pp_s]
/-! ===== the class's page ===== -/
def nw_pg (σ : jv_S) (pg : List Nat) : Prop := pg.length ≤ 16 ∧ σ.1 10 3 = nI pg.length ∧ (∀ i x, pg[i]? = some x → σ.2 11 i = lN x) ∧ ∀ y ∈ pg, y < 2 ^ 62
def nw_pP (k j : Nat) : Bool := (k == 10 && j == 3) || k == 11
theorem nw_keep_lp {x : Nat} (hx : x < 2 ^ 62) : ∀ (q : Nat) (A B : List Nat) (fuel : Nat) (σ : jv_S), A.length = q → q < fuel → q ≤ 15 → (∀ y ∈ A ++ B, y < 2 ^ 62) → A.Pairwise (fun a b => a ≤ b) → (∀ i y, A[i]? = some y → σ.2 11 i = lN y) → (∀ i y, B[i]? = some y → q + 1 + i ≤ 15 → σ.2 11 (q + 1 + i) = lN y) → (∀ y ∈ B, x < y) →
    ∃ A' B' τ, A ++ B = A' ++ B' ∧ A'.length ≤ 15 ∧ f_X5_keep_lp28 (lN x) fuel (nI q) σ = some (nI A'.length, τ) ∧ nw_f nw_pP σ τ ∧ τ.1 = σ.1 ∧ (∀ i y, A'[i]? = some y → τ.2 11 i = lN y) ∧ (∀ i y, B'[i]? = some y → A'.length + 1 + i ≤ 15 → τ.2 11 (A'.length + 1 + i) = lN y) ∧ (∀ y ∈ A', y ≤ x) ∧ ∀ y ∈ B', x < y := by
  intro q
  induction q with
  | zero =>
    intro A B fuel σ hq hf h15 hb hA hr hr2 hB
    obtain ⟨f, rfl⟩ := nw_f0 hf
    have hA0 := List.length_eq_zero_iff.mp hq
    subst hA0
    exact ⟨[], B, σ, rfl, by simp, by rw [f_X5_keep_lp28, if_pos (show nI 0 ≤ 0 by decide)]; rfl, nw_f.rfl, rfl, hr, hr2, by simp, hB⟩
  | succ q ih =>
    intro A B fuel σ hq hf h15 hb hA hr hr2 hB
    obtain ⟨f, rfl, hg⟩ := nw_fe hf
    obtain ⟨A0, a, rfl⟩ : ∃ A0 a, A = A0 ++ [a] := ⟨A.dropLast, A.getLast (by rintro rfl; simp at hq), (List.dropLast_concat_getLast _).symm⟩
    have hq0 : A0.length = q := by simpa using hq
    have ha : σ.2 11 q = lN a := hr q a (by rw [← hq0]; simp)
    have hab : a < 2 ^ 62 := hb a (by simp)
    rw [f_X5_keep_lp28, if_neg (nI_nle (by omega) (by omega)), nI_pred, nw_rd (by omega) (by omega), ha, pk_m1, nw_wrl (by omega) (by omega)]
    rw [List.pairwise_append] at hA
    by_cases c : a ≤ x
    · rw [if_pos ((nw_cmp0 hab hx).mpr c)]
      refine ⟨A0 ++ [a], B, σ, rfl, by omega, by rw [hq], nw_f.rfl, rfl, hr, by rw [hq]; exact hr2, fun y hy => ?_, hB⟩
      rcases List.mem_append.mp hy with hy | hy
      · have := hA.2.2 y hy a (by simp); omega
      · rw [List.mem_singleton.mp hy]; exact c
    · rw [if_neg (fun h => c ((nw_cmp0 hab hx).mp h))]
      obtain ⟨A', B', τ, g1, g2, g3, g4, g5, g6, g7, g8, g9⟩ := ih A0 (a :: B) f (jv_sl σ 11 (q + 1) (lN a)) hq0 hg (by omega) (by simpa using hb) hA.1 (fun i y hy => by
          have : i < A0.length := (List.getElem?_eq_some_iff.mp hy).1
          rw [nw_hj (by omega)]
          exact hr i y (by rw [List.getElem?_append_left this]; exact hy)) (fun i y hy h => by
          cases i with
          | zero =>
            simp only [List.getElem?_cons_zero, Option.some.injEq] at hy
            subst hy
            exact nw_hs
          | succ i =>
            rw [List.getElem?_cons_succ] at hy
            rw [nw_hj (by omega), show q + 1 + (i + 1) = q + 1 + 1 + i by omega]
            exact hr2 i y hy (by omega)) (fun y hy => by
          rcases List.mem_cons.mp hy with rfl | hy
          · omega
          · exact hB y hy)
      refine ⟨A', B', τ, ?_, g2, g3, (nw_f.rfl.sl (by rfl)).trans g4, g5, g6, g7, g8, g9⟩
      rw [← g1]; simp
theorem nw_keep {σ : jv_S} {pg : List Nat} {cur x : Nat} (h : nw_pg σ pg) (hp : pg.Pairwise (fun a b => a ≤ b)) (hc : σ.2 10 8 = lN cur) (hcb : cur < 2 ^ 62) (hx : x < 2 ^ 62) : ∃ τ pg', f_X5_keep σ (lN x) = some τ ∧ nw_f nw_pP σ τ ∧ nw_pg τ pg' ∧ nw_kp cur pg x pg' := by
  obtain ⟨h1, h2, h3, h4⟩ := h
  unfold f_X5_keep
  rw [hc]
  by_cases c1 : x ≤ cur
  · rw [if_pos ((nw_cmp0 hx hcb).mpr c1)]
    exact ⟨σ, pg, rfl, nw_f.rfl, ⟨h1, h2, h3, h4⟩, Or.inl ⟨rfl, Or.inl c1⟩⟩
  · rw [if_neg (fun h => c1 ((nw_cmp0 hx hcb).mp h))]
    have hfit : f_X5_fits σ (lN x) = true ↔ (pg.length < 16 ∨ (pg.length = 16 ∧ ∃ z, pg[15]? = some z ∧ x < z)) := by
      unfold f_X5_fits
      rw [nw_lt, h2]
      by_cases c2 : pg.length < 16
      · rw [if_pos (show nI pg.length < (16 : Int32) from nI_lt (b := 16) c2 (by omega))]
        exact ⟨fun _ => Or.inl c2, fun _ => rfl⟩
      · rw [if_neg (show ¬ nI pg.length < (16 : Int32) from nI_nlt (b := 16) (by omega) (by omega)), show (15 : Int32) = nI 15 from rfl, nw_rd (by omega) (by omega)]
        have h15 : 15 < pg.length := by omega
        have hz : pg[15]? = some pg[15] := List.getElem?_eq_getElem h15
        have hzb := h4 _ (List.mem_of_getElem? hz)
        rw [h3 15 _ hz]
        by_cases c3 : pg[15] ≤ x
        · rw [if_pos ((nw_cmp1 hx hzb).mpr c3)]
          refine ⟨fun h => (by cases h), fun h => ?_⟩
          rcases h with h | ⟨_, z, hz2, h⟩
          · omega
          · rw [hz] at hz2; cases hz2; omega
        · rw [if_neg (fun h => c3 ((nw_cmp1 hx hzb).mp h))]
          exact ⟨fun _ => Or.inr ⟨by omega, _, hz, by omega⟩, fun _ => rfl⟩
    by_cases c2 : f_X5_fits σ (lN x) = true
    · rw [if_pos c2, h2, show (15 : Int32) = nI 15 from rfl, nw_min (by omega) (by omega)]
      have c2 := hfit.mp c2
      have hs : pg.take (min pg.length 15) ++ pg.drop (min pg.length 15) = pg := List.take_append_drop _ _
      have hlt : (pg.take (min pg.length 15)).length = min pg.length 15 := by rw [List.length_take]; omega
      obtain ⟨A, B, τ, g1, g2, g3, g4, g5, g6, g7, g8, g9⟩ := nw_keep_lp hx (min pg.length 15) (pg.take (min pg.length 15)) (pg.drop (min pg.length 15)) jv_fuel σ hlt (nw_fu (by omega)) (by omega) (by rw [hs]; exact h4) (List.Pairwise.sublist (List.take_sublist _ _) hp) (fun i y hy => h3 i y (by
          rw [List.getElem?_take] at hy
          split at hy
          · exact hy
          · cases hy)) (fun i y hy hi => by
          have : i < (pg.drop (min pg.length 15)).length := (List.getElem?_eq_some_iff.mp hy).1
          rw [List.length_drop] at this
          omega) (fun y hy => by
          rcases c2 with c2 | ⟨c2, z, hz, hxz⟩
          · rw [Nat.min_eq_left (by omega), List.drop_length] at hy
            simp at hy
          · rw [c2] at hy
            obtain ⟨i, hi⟩ := List.mem_iff_getElem?.mp hy
            have : i < (pg.drop (min 16 15)).length := (List.getElem?_eq_some_iff.mp hi).1
            rw [List.length_drop] at this
            have hi0 : i = 0 := by omega
            subst hi0
            rw [List.getElem?_drop] at hi
            have hi : pg[15]? = some y := hi
            rw [hz] at hi
            cases hi
            exact hxz)
      rw [hs] at g1
      rw [g3, nw_bd, nw_wrl (by omega) (by omega), nw_h1, g5, h2, show (1 : Int32) = nI 1 from rfl, show (16 : Int32) = nI 16 from rfl, nI_add, nw_min (by omega) (by omega)]
      refine ⟨_, (A ++ x :: B).take 16, rfl, ((g4.sl (by rfl)).si (by rfl)), ⟨by rw [List.length_take]; omega, ?_, fun i y hy => ?_, fun y hy => ?_⟩, Or.inr ⟨by omega, c2, A, B, g1, rfl, g8, g9⟩⟩
      · have hl2 : pg.length = A.length + B.length := by rw [g1, List.length_append]
        rw [nw_gs, List.length_take, List.length_append, List.length_cons, Nat.min_comm, hl2]
        rfl
      · rw [List.getElem?_take] at hy
        split at hy
        · rename_i hi16
          rw [nw_g2]
          by_cases e1 : i < A.length
          · rw [List.getElem?_append_left e1] at hy
            rw [nw_hj (by omega)]
            exact g6 i y hy
          · rw [List.getElem?_append_right (by omega)] at hy
            by_cases e2 : i = A.length
            · subst e2
              rw [Nat.sub_self, List.getElem?_cons_zero] at hy
              cases hy
              exact nw_hs
            · obtain ⟨j, hj⟩ : ∃ j, i - A.length = j + 1 := ⟨i - A.length - 1, by omega⟩
              rw [hj, List.getElem?_cons_succ] at hy
              rw [nw_hj (by omega)]
              have := g7 j y hy (by omega)
              rwa [show A.length + 1 + j = i by omega] at this
        · cases hy
      · have := List.mem_of_mem_take hy
        rw [List.mem_append, List.mem_cons] at this
        rcases this with h | rfl | h
        · exact h4 y (by rw [g1]; exact List.mem_append_left _ h)
        · exact hx
        · exact h4 y (by rw [g1]; exact List.mem_append_right _ h)
    · rw [if_neg c2]
      have c3 := fun h => c2 (hfit.mpr h)
      refine ⟨σ, pg, rfl, nw_f.rfl, ⟨h1, h2, h3, h4⟩, Or.inl ⟨rfl, Or.inr ?_⟩⟩
      have hl : pg.length = 16 := by
        by_cases e : pg.length < 16
        · exact absurd (Or.inl e) c3
        · omega
      have hz : pg[15]? = some pg[15] := List.getElem?_eq_getElem (by omega)
      refine ⟨hl, _, hz, ?_⟩
      by_cases e : x < pg[15]
      · exact absurd (Or.inr ⟨hl, _, hz, e⟩) c3
      · omega
end NWK
