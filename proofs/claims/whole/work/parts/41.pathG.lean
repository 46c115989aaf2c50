/-! ===== the reference goes along all paths ===== -/
def nw_cst : Nat → Nat
  | 0 => 0
  | f + 1 => 24 * (nw_cst f + 1) + 1
theorem nw_goes {N : nw_N} (hW : nw_W N) {σ : jv_S} (hM : nw_M N σ) {j v : Nat} {V : Nat → Bool} {met : Int32} (hj : j < nw_m N) (hv : v < 10) (hm : ∀ w, w < 10 → bt met w = V w) : f_X8_goesOn σ (nI j) (nI v) met = some (nw_us N j && (nw_t N j == v) && !V (nw_e N j)) := by
  have hb := hW.e hj
  have hr := hM.2.2.1 j hj
  unfold f_X8_goesOn
  rw [nw_usM hW hM hj, nw_bd]
  cases hu : nw_us N j
  · simp [nw_bd]
  · rw [if_pos rfl, nw_ck (by omega) (by omega), if_pos rfl, nI_clamp (by omega), hr.1, hr.2.1]
    by_cases c : nw_t N j = v
    · rw [if_pos (by rw [c]), if_pos rfl]
      have hbit : ((met >>> (nI (nw_e N j) &&& 31)) &&& (1 : Int32)) = 0 ↔ V (nw_e N j) = false := by
        rw [nw_and1, b_sshr _ (by omega) _ (by omega), if_pos (by omega), Nat.add_zero, hm _ hb.2.1]
      cases hV : V (nw_e N j)
      · rw [if_pos (hbit.mpr hV), nw_bd]; simp [c]
      · rw [if_neg (fun h => by rw [hbit.mp h] at hV; cases hV), nw_bd]; simp
    · rw [if_neg (fun h => c ((nI_eq (by omega) (by omega)).mp h)), nw_bd]; simp [c]
theorem nw_off {x : Int32} {i j : Nat} (hi : i < 32) (hj : j < 32) : bt (x &&& (((1 : Int32) <<< (nI i &&& 31)) ^^^ (-1 : Int32))) j = (bt x j && !decide (j = i)) := by
  rw [b_and, b_xor, nw_sh hi hj, b_m1 j hj]
  cases decide (j = i) <;> simp
def nw_row4 (σ τ : jv_S) (d : Nat) : Prop := ∀ i, i < d → τ.1 43 i = σ.1 43 i ∧ τ.1 44 i = σ.1 44 i ∧ τ.1 45 i = σ.1 45 i ∧ τ.1 46 i = σ.1 46 i
theorem nw_row4.trans {σ τ ρ : jv_S} {d : Nat} (h : nw_row4 σ τ d) (h2 : nw_row4 τ ρ d) : nw_row4 σ ρ d := fun i hi => by
  obtain ⟨a1, a2, a3, a4⟩ := h i hi
  obtain ⟨b1, b2, b3, b4⟩ := h2 i hi
  exact ⟨b1.trans a1, b2.trans a2, b3.trans a3, b4.trans a4⟩
theorem nw_f.keepM {N : nw_N} {P : Nat → Nat → Bool} {σ τ : jv_S} (h : nw_f P σ τ) (hM : nw_M N σ) (hP : ∀ k j, nw_pM k j = true → P k j = false) : nw_M N τ := hM.keep (fun k j hk => (h k j (hP k j hk)).1)
theorem nw_pG_M (k j : Nat) (h : nw_pM k j = true) : nw_pG k j = false := by
  simp only [nw_pM, nw_pG, Bool.or_eq_true, Bool.and_eq_true, beq_iff_eq, Bool.or_eq_false_iff, Bool.and_eq_false_iff, beq_eq_false_iff_ne] at h ⊢
  omega
theorem nw_pG_B {σ τ : jv_S} (h : nw_f nw_pB σ τ) : nw_f nw_pG σ τ := h.mono (fun k j h => by
  simp only [nw_pB, nw_pG, Bool.or_eq_true, Bool.and_eq_true, beq_iff_eq, Bool.or_eq_false_iff, Bool.and_eq_false_iff, beq_eq_false_iff_ne] at h ⊢
  omega)
theorem nw_RB.keep {N : nw_N} {l : List (List Nat)} {best : Option (List Nat)} {σ τ : jv_S} (h : nw_RB N l best σ) (h1 : τ.1 35 21 = σ.1 35 21) (h2 : τ.1 35 22 = σ.1 35 22) (h3 : τ.1 47 = σ.1 47) : nw_RB N l best τ := by
  cases best with
  | none => show τ.1 35 21 = nI 0; rw [h1]; exact h
  | some b =>
    obtain ⟨a1, a2, a3, a4⟩ := h
    exact ⟨a1, by rw [h1, a2], by rw [h2, a3], by rw [h3]; exact a4⟩
/-- what is still to come from a node, from edge j on -/
def nw_LL (N : nw_N) (to f : Nat) (V : Nat → Bool) (v j k : Nat) : List (List Nat) := ((List.range' j k).filter (fun e => nw_t N e == v && nw_us N e)).flatMap (nw_br N to f V)
def nw_bst (N : nw_N) (cur : Nat) (dr : Bool) (pre : List Nat) (best : Option (List Nat)) (L : List (List Nat)) : Option (List Nat) := if dr = true then (L.map (fun p => pre ++ p)).foldl (nw_mb N cur) best else best
theorem nw_bst_app {N : nw_N} {cur : Nat} {dr : Bool} {pre : List Nat} {best : Option (List Nat)} {L L' : List (List Nat)} : nw_bst N cur dr pre best (L ++ L') = nw_bst N cur dr pre (nw_bst N cur dr pre best L) L' := by
  unfold nw_bst
  cases dr
  · rfl
  · simp only [if_true, List.map_append, List.foldl_append]
theorem nw_LL_s {N : nw_N} {to f v j k : Nat} {V : Nat → Bool} : nw_LL N to f V v j (k + 1) = (if nw_t N j == v && nw_us N j then nw_br N to f V j else []) ++ nw_LL N to f V v (j + 1) k := by
  unfold nw_LL
  rw [nw_rg, List.filter_cons]
  by_cases c : (nw_t N j == v && nw_us N j) = true
  · rw [if_pos c, if_pos c, List.flatMap_cons]
  · rw [if_neg c, if_neg c, List.nil_append]
theorem nw_bst_pre {N : nw_N} {cur e : Nat} {dr : Bool} {pre : List Nat} {best : Option (List Nat)} {L : List (List Nat)} : nw_bst N cur dr pre best (L.map (fun p => e :: p)) = nw_bst N cur dr (pre ++ [e]) best L := by
  unfold nw_bst
  rw [List.map_map]
  have : ((fun p => pre ++ p) ∘ fun p => e :: p) = fun p => pre ++ [e] ++ p := by funext p; simp
  rw [this]
def nw_pr (N : nw_N) (l : List (List Nat)) (to cur drawn : Nat) (dr : Bool) (path : List Nat) (d g v j : Nat) (V : Nat → Bool) (met : Int32) (pre : List Nat) (best : Option (List Nat)) (L : List (List Nat)) (σ : jv_S) : Prop := d = pre.length ∧ (∀ w, w < 10 → bt met w = V w) ∧ V to = false ∧ v < 10 ∧ nw_M N σ ∧ σ.1 44 d = nI v ∧ σ.1 45 d = nI g ∧ σ.1 46 d = nI j ∧ g = nw_sl N pre ∧ g ≤ 1000 * d ∧ nw_rw (σ.1 43) pre ∧ (∀ p ∈ L, pre ++ p ∈ l) ∧ (dr = true → nw_RB N l best σ ∧ nw_RP N l cur drawn path σ)
def nw_cl (N : nw_N) (l : List (List Nat)) (to most cur : Nat) (dr : Bool) (cb d n g v : Nat) (V : Nat → Bool) (met : Int32) (pre : List Nat) (best : Option (List Nat)) (L : List (List Nat)) (σ : jv_S) : Prop := ∃ c σ' met', c ≤ cb ∧ (∀ F, f_X8_goesAlong_lp32 (nI to) (nI most) (jv_b dr) (F + c) (nI n) (nI d) met σ = f_X8_goesAlong_lp32 (nI to) (nI most) (jv_b dr) F (nI (n + L.countP (fun p => decide (g + nw_sl N p ≤ most)))) (nI d + (-1 : Int32)) met' σ') ∧ (∀ w, w < 10 → bt met' w = (V w && !decide (w = v))) ∧ nw_f nw_pG σ σ' ∧ nw_row4 σ σ' d ∧ (dr = true → nw_RB N l (nw_bst N cur dr pre best L) σ')
theorem nw_cl.step {N : nw_N} {l : List (List Nat)} {to most cur cb cb' d n n' g v c0 : Nat} {dr : Bool} {V : Nat → Bool} {met met2 : Int32} {pre : List Nat} {best : Option (List Nat)} {L L' : List (List Nat)} {σ τ : jv_S} (h : nw_cl N l to most cur dr cb d n' g v V met2 pre (nw_bst N cur dr pre best L) L' τ)
    (h1 : ∀ F, f_X8_goesAlong_lp32 (nI to) (nI most) (jv_b dr) (F + c0) (nI n) (nI d) met σ = f_X8_goesAlong_lp32 (nI to) (nI most) (jv_b dr) F (nI n') (nI d) met2 τ) (hn : n' = n + L.countP (fun p => decide (g + nw_sl N p ≤ most))) (hf : nw_f nw_pG σ τ) (h4 : nw_row4 σ τ d) (hc : cb + c0 ≤ cb') : nw_cl N l to most cur dr cb' d n g v V met pre best (L ++ L') σ := by
  obtain ⟨c, σ', met', g1, g2, g3, g4, g5, g6⟩ := h
  refine ⟨c + c0, σ', met', by omega, fun F => ?_, g3, hf.trans g4, h4.trans g5, fun h => ?_⟩
  · rw [← Nat.add_assoc, h1, g2, hn, List.countP_append, Nat.add_assoc]
  · rw [nw_bst_app]; exact g6 h
set_option maxRecDepth 8000 in
set_option maxHeartbeats 1000000 in
theorem nw_along_k {N : nw_N} (hW : nw_W N) {l : List (List Nat)} (hl : nw_gm N l) {to most cur drawn : Nat} {dr : Bool} {path : List Nat} (hto : to < 10) (hmo : most ≤ 100000) {f : Nat}
    (hch : ∀ (d n g v : Nat) (V : Nat → Bool) (met : Int32) (pre : List Nat) (best : Option (List Nat)) (σ : jv_S), d + f ≤ 9 → nw_cv to V < f → nw_pr N l to cur drawn dr path d g v 0 V met pre best (nw_pp N to f V v) σ → nw_cl N l to most cur dr (nw_cst f) d n g v V met pre best (nw_pp N to f V v) σ) :
    ∀ (k j d n g v : Nat) (V : Nat → Bool) (met : Int32) (pre : List Nat) (best : Option (List Nat)) (σ : jv_S), j + k = nw_m N → d + (f + 1) ≤ 9 → nw_cv to V < f + 1 → nw_pr N l to cur drawn dr path d g v j V met pre best (nw_LL N to f V v j k) σ → nw_cl N l to most cur dr (k * (nw_cst f + 1) + 1) d n g v V met pre best (nw_LL N to f V v j k) σ := by
  have hn := hW.n
  intro k
  induction k with
  | zero =>
    rintro j d n g v V met pre best σ hj hdf hcv ⟨hd, hm, hVt, hv, hM, h44, h45, h46, hg, hgd, h43, hin, hdr⟩
    have hj : j = nw_m N := by omega
    subst hj
    refine ⟨1, jv_si σ 46 d (nI (nw_m N + 1)), met &&& (((1 : Int32) <<< (nI v &&& 31)) ^^^ (-1 : Int32)), by omega, fun F => ?_, fun w hw => ?_, nw_f.rfl.si (by rfl), fun i hi => ?_, fun h => ?_⟩
    · rw [f_X8_goesAlong_lp32, if_neg (nI_pos (by omega))]
      simp only [nw_ck (show d < 10 by omega) (by omega), nI_clamp (show d < 2 ^ 31 by omega), h44, h46, hM.2.1, if_true, nw_bd, nI_1]
      rfl
    · rw [nw_off (by omega) (by omega), hm w hw]
    · rw [nw_gn (by decide), nw_gn (by decide), nw_gn (by decide), nw_gj (by omega)]
      exact ⟨rfl, rfl, rfl, rfl⟩
    · have : nw_bst N cur dr pre best (nw_LL N to f V v (nw_m N) 0) = best := by unfold nw_bst; rw [h]; rfl
      rw [this]
      exact (hdr h).1.keep (by rw [nw_gn (by decide)]) (by rw [nw_gn (by decide)]) (by rw [nw_gn (by decide)])
  | succ k ih =>
    rintro j d n g v V met pre best σ hj hdf hcv ⟨hd, hm, hVt, hv, hM, h44, h45, h46, hg, hgd, h43, hin, hdr⟩
    have hjm : j < nw_m N := by omega
    have hb := hW.e hjm
    have hr := hM.2.2.1 j hjm
    rw [nw_LL_s] at hin ⊢
    have hf1 : nw_f nw_pG σ (jv_si σ 46 d (nI (j + 1))) := nw_f.rfl.si (by rfl)
    have hM1 : nw_M N (jv_si σ 46 d (nI (j + 1))) := hf1.keepM hM nw_pG_M
    have h41 : nw_row4 σ (jv_si σ 46 d (nI (j + 1))) d := fun i hi => by
      rw [nw_gn (by decide), nw_gn (by decide), nw_gn (by decide), nw_gj (by omega)]
      exact ⟨rfl, rfl, rfl, rfl⟩
    have hne : ¬ nI j = nI (nw_m N) := fun h => by have := (nI_eq (by omega) (by omega)).mp h; omega
    have hgo := nw_goes hW hM1 hjm hv hm
    have hkc : k * (nw_cst f + 1) + 1 + (nw_cst f + 1) ≤ (k + 1) * (nw_cst f + 1) + 1 := by rw [Nat.add_mul]; omega
    by_cases cA : (nw_us N j && (nw_t N j == v) && !V (nw_e N j)) = true
    · simp only [Bool.and_eq_true, beq_iff_eq, Bool.not_eq_true'] at cA
      obtain ⟨⟨cu, ct⟩, cV⟩ := cA
      have hgo2 : f_X8_goesOn (jv_si σ 46 d (nI (j + 1))) (nI j) (nI v) met = some true := by rw [hgo, cu, cV]; simp [ct]
      have hbr : (if (nw_t N j == v && nw_us N j) = true then nw_br N to f V j else []) = nw_br N to f V j := by rw [if_pos (by simp [ct, cu])]
      rw [hbr] at hin ⊢
      have hf2 : nw_f nw_pG σ (jv_si (jv_si σ 46 d (nI (j + 1))) 43 d (nI j)) := hf1.si (by rfl)
      have h43' : nw_rw ((jv_si (jv_si σ 46 d (nI (j + 1))) 43 d (nI j)).1 43) (pre ++ [j]) := by
        rw [nw_rw_app]
        refine ⟨fun i x hx => ?_, fun i x hx => ?_⟩
        · have : i < pre.length := (List.getElem?_eq_some_iff.mp hx).1
          rw [nw_gj (by omega), nw_gn (by decide), h43 i x hx]
        · cases i with
          | zero =>
            simp only [List.getElem?_cons_zero, Option.some.injEq] at hx
            subst hx
            rw [← hd]; exact nw_gs
          | succ i => simp at hx
      by_cases c3 : nw_e N j = to
      · have hbr2 : nw_br N to f V j = [[j]] := by unfold nw_br; rw [if_pos c3]
        rw [hbr2] at hin ⊢
        have hsl : nw_sl N (pre ++ [j]) = g + nw_l N j := by rw [nw_sl_app, hg]; rfl
        have hcnt : ([[j]] : List (List Nat)).countP (fun p => decide (g + nw_sl N p ≤ most)) = if g + nw_l N j ≤ most then 1 else 0 := by
          have e : nw_sl N [j] = nw_l N j := rfl
          by_cases c : g + nw_l N j ≤ most <;> simp [e, c]
        have hq : (if nI most < nI (g + nw_l N j) then false else true) = decide (g + nw_l N j ≤ most) := by
          by_cases c : g + nw_l N j ≤ most
          · rw [if_neg (nI_nlt c (by omega)), decide_eq_true c]
          · rw [if_pos (nI_lt (by omega) (by omega)), decide_eq_false c]
        have hjb : nI n + jv_b (decide (g + nw_l N j ≤ most)) = nI (n + if g + nw_l N j ≤ most then 1 else 0) := by
          by_cases c : g + nw_l N j ≤ most
          · rw [if_pos c, decide_eq_true c]; exact nI_1 n
          · rw [if_neg c, decide_eq_false c]
            show nI n + nI 0 = _
            rw [nI_add]
        -- what the meeting leaves
        have hmt : ∃ τ, (if jv_b dr = 0 then some (nI (n + if g + nw_l N j ≤ most then 1 else 0), nI d, met, jv_si (jv_si σ 46 d (nI (j + 1))) 43 d (nI j)) else jv_bd (f_X8_meets (jv_si (jv_si σ 46 d (nI (j + 1))) 43 d (nI j)) (nI (d + 1)) (nI (g + nw_l N j))) (fun q26 => some (nI (n + if g + nw_l N j ≤ most then 1 else 0), nI d, met, q26))) = some (nI (n + if g + nw_l N j ≤ most then 1 else 0), nI d, met, τ) ∧ nw_f nw_pB (jv_si (jv_si σ 46 d (nI (j + 1))) 43 d (nI j)) τ ∧ (dr = true → nw_RB N l (nw_bst N cur dr pre best [[j]]) τ) := by
          cases hdd : dr with
          | false => exact ⟨_, if_pos rfl, nw_f.rfl, fun h => by cases h⟩
          | true =>
            rw [if_neg (by decide)]
            obtain ⟨hB, hP⟩ := hdr hdd
            obtain ⟨τ, m1, m2, m3⟩ := nw_meets hW hl (p := pre ++ [j]) (best := best) (cur := cur) (drawn := drawn) (path := path) (hin [j] (by simp)) h43' (hP.keep (fun i hi => by rw [nw_gn (by decide), nw_gn (by decide)]) (by rw [nw_gn (by decide), nw_gn (by decide)])) (hB.keep (by rw [nw_gn (by decide), nw_gn (by decide)]) (by rw [nw_gn (by decide), nw_gn (by decide)]) (by rw [nw_gn (by decide), nw_gn (by decide)]))
            rw [hsl, List.length_append, List.length_singleton, ← hd] at m1
            refine ⟨τ, by rw [m1, nw_bd], m2, fun _ => ?_⟩
            unfold nw_bst
            rw [if_pos rfl]
            exact m3
        obtain ⟨τ, m1, m2, m3⟩ := hmt
        have hfT : nw_f nw_pG σ τ := hf2.trans (nw_pG_B m2)
        have hrow : ∀ k, k ≠ 35 → k ≠ 47 → τ.1 k = (jv_si (jv_si σ 46 d (nI (j + 1))) 43 d (nI j)).1 k := fun k h1 h2 => funext fun i => (m2 k i (by simp [nw_pB, h1, h2])).1
        refine nw_cl.step (c0 := 1) (met2 := met) (τ := τ) (ih (j + 1) d (n + if g + nw_l N j ≤ most then 1 else 0) g v V met pre _ τ (by omega) hdf hcv ⟨hd, hm, hVt, hv, hfT.keepM hM nw_pG_M, by rw [hrow 44 (by decide) (by decide), nw_gn (by decide), nw_gn (by decide), h44], by rw [hrow 45 (by decide) (by decide), nw_gn (by decide), nw_gn (by decide), h45], by rw [hrow 46 (by decide) (by decide), nw_gn (by decide), nw_gs], hg, hgd, ?_, fun p hp => hin p (List.mem_append_right _ hp), fun h => ⟨m3 h, (hdr h).2.keep (fun i hi => ?_) ?_⟩⟩) (fun F => ?_) (by rw [hcnt]) hfT (fun i hi => ?_) (by omega)
        · rw [hrow 43 (by decide) (by decide)]
          exact (nw_rw_app.mp h43').1
        · rw [(hfT 35 i (by rcases hi with rfl | rfl | rfl <;> rfl)).1]
        · rw [hrow 42 (by decide) (by decide), nw_gn (by decide), nw_gn (by decide)]
        · rw [f_X8_goesAlong_lp32, if_neg (nI_pos (by omega))]
          simp only [nw_ck (show d < 10 by omega) (by omega), nw_ck (show j < 24 by omega) (by omega), nI_clamp (show d < 2 ^ 31 by omega), nI_clamp (show j < 2 ^ 31 by omega), h44, h45, h46, hM.2.1, if_true, nw_bd, nI_1, if_neg hne, hgo2, hr.2.1, hr.2.2.1, c3, nw_lt, hq, hjb, nI_add]
          rw [m1, nw_bd]
        · rw [hrow 43 (by decide) (by decide), hrow 44 (by decide) (by decide), hrow 45 (by decide) (by decide), hrow 46 (by decide) (by decide), nw_gj (by omega), nw_gn (by decide), nw_gn (by decide), nw_gn (by decide), nw_gn (by decide), nw_gn (by decide), nw_gn (by decide), nw_gj (by omega)]
          exact ⟨rfl, rfl, rfl, rfl⟩
      · have hbr2 : nw_br N to f V j = (nw_pp N to f (fun w => V w || w == nw_e N j) (nw_e N j)).map (fun p => j :: p) := by unfold nw_br; rw [if_neg c3, if_neg (by rw [cV]; decide)]
        rw [hbr2] at hin ⊢
        have hcv2 := nw_cv_lt hb.2.1 cV c3
        have hf5 : nw_f nw_pG σ (jv_si (jv_si (jv_si (jv_si (jv_si σ 46 d (nI (j + 1))) 43 d (nI j)) 44 (d + 1) (nI (nw_e N j))) 45 (d + 1) (nI (g + nw_l N j))) 46 (d + 1) (0 : Int32)) := ((hf2.si (by rfl)).si (by rfl)).si (by rfl)
        have hch2 := hch (d + 1) n (g + nw_l N j) (nw_e N j) (fun w => V w || w == nw_e N j) (met ||| ((1 : Int32) <<< (nI (nw_e N j) &&& 31))) (pre ++ [j]) best (jv_si (jv_si (jv_si (jv_si (jv_si σ 46 d (nI (j + 1))) 43 d (nI j)) 44 (d + 1) (nI (nw_e N j))) 45 (d + 1) (nI (g + nw_l N j))) 46 (d + 1) (0 : Int32)) (by omega) (by omega) ⟨by simp [hd], fun w hw => by
            rw [nw_or1 (by omega) (by omega), hm w hw]
            rfl, by simp [hVt]; exact fun h => c3 h.symm, hb.2.1, hf5.keepM hM nw_pG_M, by rw [nw_gn (by decide), nw_gn (by decide), nw_gs], by rw [nw_gn (by decide), nw_gs], by rw [nw_gs]; rfl, by rw [nw_sl_app, hg]; rfl, by omega, ?_, fun p hp => by
            have := hin (j :: p) (List.mem_append_left _ (List.mem_map.mpr ⟨p, hp, rfl⟩))
            simpa using this, fun h => ⟨(hdr h).1.keep ?_ ?_ ?_, (hdr h).2.keep (fun i hi => ?_) ?_⟩⟩
        · obtain ⟨c, σ', met', g1, g2, g3, g4, g5, g6⟩ := hch2
          have hd4 := g5 d (by omega)
          have hfT : nw_f nw_pG σ σ' := hf5.trans g4
          refine nw_cl.step (c0 := c + 1) (met2 := met') (τ := σ') (ih (j + 1) d (n + (nw_pp N to f (fun w => V w || w == nw_e N j) (nw_e N j)).countP (fun p => decide (g + nw_l N j + nw_sl N p ≤ most))) g v V met' pre _ σ' (by omega) hdf hcv ⟨hd, fun w hw => ?_, hVt, hv, hfT.keepM hM nw_pG_M, ?_, ?_, ?_, hg, hgd, ?_, fun p hp => hin p (List.mem_append_right _ hp), fun h => ⟨?_, (hdr h).2.keep (fun i hi => ?_) ?_⟩⟩) (fun F => ?_) ?_ hfT (fun i hi => ?_) (by omega)
          · rw [g3 w hw]
            by_cases e : w = nw_e N j
            · subst e; simp [cV]
            · simp [e]
          · rw [hd4.2.1, nw_gn (by decide), nw_gn (by decide), nw_gj (by omega), nw_gn (by decide), nw_gn (by decide), h44]
          · rw [hd4.2.2.1, nw_gn (by decide), nw_gj (by omega), nw_gn (by decide), nw_gn (by decide), nw_gn (by decide), h45]
          · rw [hd4.2.2.2, nw_gj (by omega), nw_gn (by decide), nw_gn (by decide), nw_gn (by decide), nw_gs]
          · intro i x hx
            have : i < pre.length := (List.getElem?_eq_some_iff.mp hx).1
            rw [(g5 i (by omega)).1, nw_gn (by decide), nw_gn (by decide), nw_gn (by decide), nw_gj (by omega), nw_gn (by decide), h43 i x hx]
          · rw [nw_bst_pre]; exact g6 h
          · rw [(hfT 35 i (by rcases hi with rfl | rfl | rfl <;> rfl)).1]
          · exact funext fun i => (hfT 42 i rfl).1
          · rw [← Nat.add_assoc, f_X8_goesAlong_lp32, if_neg (nI_pos (by omega))]
            have hne2 : ¬ nI (nw_e N j) = nI to := fun h => c3 ((nI_eq (by omega) (by omega)).mp h)
            simp only [nw_ck (show d < 10 by omega) (by omega), nw_ck (show j < 24 by omega) (by omega), nw_ck (show d + 1 < 10 by omega) (by omega), nI_clamp (show d < 2 ^ 31 by omega), nI_clamp (show d + 1 < 2 ^ 31 by omega), nI_clamp (show j < 2 ^ 31 by omega), h44, h45, h46, hM.2.1, if_true, nw_bd, nI_1, if_neg hne, if_neg hne2, hgo2, hr.2.1, hr.2.2.1, nI_add]
            rw [g2, pk_m1]
          · rw [List.countP_map]
            refine congrArg (fun z => n + z) (List.countP_congr (fun p _ => ?_))
            show decide (g + nw_l N j + nw_sl N p ≤ most) = true ↔ decide (g + (nw_l N j + nw_sl N p) ≤ most) = true
            rw [Nat.add_assoc]
          · obtain ⟨b1, b2, b3, b4⟩ := g5 i (by omega)
            rw [b1, b2, b3, b4, nw_gn (by decide), nw_gn (by decide), nw_gn (by decide), nw_gj (by omega), nw_gn (by decide), nw_gn (by decide), nw_gn (by decide), nw_gj (by omega), nw_gn (by decide), nw_gn (by decide), nw_gn (by decide), nw_gj (by omega), nw_gn (by decide), nw_gn (by decide), nw_gn (by decide), nw_gj (by omega), nw_gn (by decide), nw_gn (by decide), nw_gn (by decide), nw_gj (by omega)]
            exact ⟨rfl, rfl, rfl, rfl⟩
        · rw [nw_gn (by decide), nw_gn (by decide), nw_gn (by decide)]; exact h43'
        · rw [nw_gn (by decide), nw_gn (by decide), nw_gn (by decide), nw_gn (by decide), nw_gn (by decide)]
        · rw [nw_gn (by decide), nw_gn (by decide), nw_gn (by decide), nw_gn (by decide), nw_gn (by decide)]
        · rw [nw_gn (by decide), nw_gn (by decide), nw_gn (by decide), nw_gn (by decide), nw_gn (by decide)]
        · rw [nw_gn (by decide), nw_gn (by decide), nw_gn (by decide), nw_gn (by decide), nw_gn (by decide)]
        · rw [nw_gn (by decide), nw_gn (by decide), nw_gn (by decide), nw_gn (by decide), nw_gn (by decide)]
    · have hgo2 : f_X8_goesOn (jv_si σ 46 d (nI (j + 1))) (nI j) (nI v) met = some false := by rw [hgo, Bool.eq_false_iff.mpr cA]
      have hbr : (if (nw_t N j == v && nw_us N j) = true then nw_br N to f V j else []) = [] := by
        by_cases c : (nw_t N j == v && nw_us N j) = true
        · rw [if_pos c]
          simp only [Bool.and_eq_true, beq_iff_eq] at c
          have hV : V (nw_e N j) = true := by
            cases hV : V (nw_e N j)
            · exact absurd (by simp [c.1, c.2, hV]) cA
            · rfl
          unfold nw_br
          rw [if_neg (fun h => by rw [h, hVt] at hV; cases hV), if_pos hV]
        · rw [if_neg c]
      rw [hbr] at hin ⊢
      have hbst : nw_bst N cur dr pre best [] = best := by unfold nw_bst; cases dr <;> rfl
      refine nw_cl.step (c0 := 1) (met2 := met) (τ := jv_si σ 46 d (nI (j + 1))) (ih (j + 1) d n g v V met pre _ _ (by omega) hdf hcv ⟨hd, hm, hVt, hv, hM1, by rw [nw_gn (by decide), h44], by rw [nw_gn (by decide), h45], nw_gs, hg, hgd, by rw [nw_gn (by decide)]; exact h43, fun p hp => hin p (by simpa using hp), fun h => ?_⟩) (fun F => ?_) rfl hf1 h41 (by omega)
      · rw [hbst]
        exact ⟨(hdr h).1.keep (by rw [nw_gn (by decide)]) (by rw [nw_gn (by decide)]) (by rw [nw_gn (by decide)]), (hdr h).2.keep (fun i hi => by rw [nw_gn (by decide)]) (by rw [nw_gn (by decide)])⟩
      · rw [f_X8_goesAlong_lp32, if_neg (nI_pos (by omega))]
        simp only [nw_ck (show d < 10 by omega) (by omega), nI_clamp (show d < 2 ^ 31 by omega), h44, h46, hM.2.1, if_true, nw_bd, nI_1, if_neg hne, hgo2, Bool.false_eq_true, if_false]
theorem nw_along {N : nw_N} (hW : nw_W N) {l : List (List Nat)} (hl : nw_gm N l) {to most cur drawn : Nat} {dr : Bool} {path : List Nat} (hto : to < 10) (hmo : most ≤ 100000) :
    ∀ (f d n g v : Nat) (V : Nat → Bool) (met : Int32) (pre : List Nat) (best : Option (List Nat)) (σ : jv_S), d + f ≤ 9 → nw_cv to V < f → nw_pr N l to cur drawn dr path d g v 0 V met pre best (nw_pp N to f V v) σ → nw_cl N l to most cur dr (nw_cst f) d n g v V met pre best (nw_pp N to f V v) σ := by
  intro f
  induction f with
  | zero => intro d n g v V met pre best σ h1 h2; omega
  | succ f ih =>
    intro d n g v V met pre best σ h1 h2 h3
    obtain ⟨c, σ', met', g1, g2⟩ := nw_along_k hW hl hto hmo ih (nw_m N) 0 d n g v V met pre best σ (by omega) h1 h2 h3
    have : nw_m N * (nw_cst f + 1) ≤ 24 * (nw_cst f + 1) := Nat.mul_le_mul_right _ hW.n.2.2
    exact ⟨c, σ', met', by show c ≤ 24 * (nw_cst f + 1) + 1; omega, g2⟩
