/-! ===== the walk of a rank ===== -/
def nw_fs (N : nw_N) (to v L g : Nat) : Nat := nw_if N v g (if nw_l N g ≤ L then nw_w N to (nw_e N g) (L - nw_l N g) else 0)
def nw_ww (N : nw_N) (to : Nat) : List Nat → Nat → Nat → Prop
  | [], v, r => nw_at N to v r 0
  | e :: p, v, r => ∃ L r', nw_at N to v r L ∧ 0 < L ∧ e < nw_m N ∧ nw_ue N v e ∧ nw_l N e ≤ L ∧ nw_at N to (nw_e N e) r' (L - nw_l N e) ∧ r + nw_c N to (nw_e N e) (L - nw_l N e) = nw_c N to v L + wk_S e (nw_fs N to v L) + r' ∧ nw_ww N to p (nw_e N e) r'
section NWQ
variable {N : nw_N} {to : Nat}
theorem nw_S_mono {a b : Nat} {f : Nat → Nat} (h : a ≤ b) : wk_S a f ≤ wk_S b f := by
  obtain ⟨d, rfl⟩ := Nat.exists_eq_add_of_le h
  clear h
  induction d with
  | zero => exact Nat.le_refl _
  | succ d ih => exact Nat.le_trans ih (Nat.le_add_right _ _)
theorem nw_ww_lt {v L e e' r r' r2 : Nat} (hue : nw_ue N v e) (hl : nw_l N e ≤ L) (h1 : nw_at N to (nw_e N e) r' (L - nw_l N e)) (h2 : r + nw_c N to (nw_e N e) (L - nw_l N e) = nw_c N to v L + wk_S e (nw_fs N to v L) + r') (h3 : nw_at N to (nw_e N e') r2 (L - nw_l N e')) (h4 : r + nw_c N to (nw_e N e') (L - nw_l N e') = nw_c N to v L + wk_S e' (nw_fs N to v L) + r2) : ¬ e < e' := fun h => by
  have h5 := nw_S_mono (f := nw_fs N to v L) (show e + 1 ≤ e' by omega)
  have h6 : wk_S (e + 1) (nw_fs N to v L) = wk_S e (nw_fs N to v L) + nw_w N to (nw_e N e) (L - nw_l N e) := by
    show _ + nw_fs N to v L e = _
    unfold nw_fs
    rw [nw_if_p hue, if_pos hl]
  have h7 := h1.2
  rw [nw_cs] at h7
  have h8 := h3.1
  omega
theorem nw_ww_uniq : ∀ (p q : List Nat) (v r : Nat), nw_ww N to p v r → nw_ww N to q v r → p = q := by
  intro p
  induction p with
  | nil =>
    intro q v r h1 h2
    cases q with
    | nil => rfl
    | cons e q =>
      obtain ⟨L, r', g1, g2, -⟩ := h2
      have := nw_at_uniq h1 g1
      omega
  | cons e p ih =>
    intro q v r h1 h2
    obtain ⟨L, r', g1, g2, g3, g4, g5, g6, g7, g8⟩ := h1
    cases q with
    | nil => have := nw_at_uniq g1 h2; omega
    | cons e' q =>
      obtain ⟨L', r2, k1, k2, k3, k4, k5, k6, k7, k8⟩ := h2
      have := nw_at_uniq g1 k1
      subst this
      have a1 := nw_ww_lt g4 g5 g6 g7 k6 k7
      have a2 := nw_ww_lt k4 k5 k6 k7 g6 g7
      have e1 : e = e' := by omega
      subst e1
      have e2 : r' = r2 := by omega
      subst e2
      rw [ih q _ _ g8 k8]
/-- the class's rows lead along a walk -/
def nw_ch (N : nw_N) (σ : jv_S) : List Nat → Nat → Nat → Prop
  | [], _, _ => True
  | e :: p, v, r => v * 50 + r < 500 ∧ σ.1 20 (v * 50 + r) = nI e ∧ ∃ v' r', σ.1 21 (v * 50 + r) = nI (v' * 50 + r') ∧ nw_ch N σ p v' r'
theorem nw_list_ww (hW : nw_W N) {cnt uc : Nat → Nat} {len fe rk sz : Nat → Nat → Nat} {M : Nat} {σ : jv_S} (hL : nw_L N to cnt len uc fe rk sz M) (hK : nw_KW N cnt len uc fe rk sz σ) : ∀ (L v r : Nat), v < 10 → r < cnt v → len v r = L → ∃ p, nw_ww N to p v r ∧ p.length = sz v r ∧ nw_ch N σ p v r := by
  intro L
  induction L using Nat.strongRecOn with
  | _ L ih =>
    intro v r hv hr hlen
    have hat := (hL.1 v hv).2 r hr
    obtain ⟨a1, a2⟩ := hL.2.2.2.2.2.2 v hv r hr
    by_cases c : L = 0
    · rw [hlen] at hat a1
      subst c
      exact ⟨[], hat, by rw [a1 rfl]; rfl, trivial⟩
    · obtain ⟨b1, b2, b3, b4, b5, b6⟩ := a2 (by omega)
      have hb := hW.e b1
      obtain ⟨p, p1, p2, p3⟩ := ih (len (nw_e N (fe v r)) (rk v r)) (by omega) _ _ hb.2.1 b3 rfl
      have hat2 := (hL.1 _ hb.2.1).2 _ b3
      have h50 := (hL.1 v hv).1
      have hk := hK.2.2 v hv r hr
      refine ⟨fe v r :: p, ⟨len v r, rk v r, hat, by omega, b1, b2, by omega, ?_, b6, p1⟩, by rw [List.length_cons, p2, b5], ⟨by omega, (hk.2.2.1 (by omega)).1, _, _, (hk.2.2.1 (by omega)).2, p3⟩⟩
      rw [b4, Nat.add_sub_cancel_left]
      exact hat2
theorem nw_curE_lp {σ : jv_S} : ∀ (i : Nat) (p : List Nat) (v r j x fuel : Nat), nw_ch N σ p v r → p[i]? = some x → i < fuel → j + i < 1000 → ∃ en, f_X6_currentEdge_lp21 (nI (j + i)) fuel (nI (v * 50 + r)) (nI j) σ = some (nI en, nI (j + i)) ∧ en < 500 ∧ σ.1 20 en = nI x := by
  intro i
  induction i with
  | zero =>
    intro p v r j x fuel hc hx hf hj
    obtain ⟨f, rfl⟩ := nw_f0 hf
    cases p with
    | nil => simp at hx
    | cons e p =>
      simp only [List.getElem?_cons_zero, Option.some.injEq] at hx
      subst hx
      exact ⟨v * 50 + r, by rw [f_X6_currentEdge_lp21, if_pos (nI_le (by omega) (by omega))]; rfl, hc.1, hc.2.1⟩
  | succ i ih =>
    intro p v r j x fuel hc hx hf hj
    obtain ⟨f, rfl, hg⟩ := nw_fe hf
    cases p with
    | nil => simp at hx
    | cons e p =>
      rw [List.getElem?_cons_succ] at hx
      obtain ⟨c1, c2, v', r', c3, c4⟩ := hc
      rw [f_X6_currentEdge_lp21, if_neg (nI_ge (by omega) (by omega)), nw_rd (by omega) (by omega), c3, nI_1]
      have := ih p v' r' (j + 1) x f c4 hx hg (by omega)
      rw [show j + 1 + i = j + (i + 1) by omega] at this
      exact this
/-- what the class's draw shows of the last walk -/
theorem nw_wcur (hW : nw_W N) {fr d : Nat} {σ : jv_S} (hfr : fr < 10) (h : nw_WC N fr to (d + 1) σ) : ∃ p L, nw_ww N to p fr d ∧ nw_at N to fr d L ∧ d < 50 ∧ L ≤ 500000 ∧ p.length < 500 ∧ f_X6_currentLength σ = nI L ∧ f_X6_currentSize σ = nI p.length ∧ (∀ i x, p[i]? = some x → f_X6_currentEdge σ (nI i) = some (nI x)) ∧ (∀ q : Int32, q < 0 → f_X6_currentEdge σ q = some (-1 : Int32)) ∧ ∀ q : Int32, ¬ q < 0 → ¬ q < nI p.length → f_X6_currentEdge σ q = some (-1 : Int32) := by
  obtain ⟨h7, h8, cnt, tot, ⟨len, uc, fe, rk, sz, M, hL, hK, ht⟩, ht1, hdc⟩ := h
  have hS := nw_S10 (fun v hv => (hL.1 v hv).1)
  have h50 := (hL.1 fr hfr).1
  obtain ⟨p, p1, p2, p3⟩ := nw_list_ww hW hL hK _ fr d hfr (by omega) rfl
  have hk := hK.2.2 fr hfr d (by omega)
  have hent : f_X6_currentEntry σ = nI (fr * 50 + d) := by
    unfold f_X6_currentEntry f_X6_entry
    rw [h7, h8, nI_pred, show (50 : Int32) = nI 50 from rfl, pk_mul, nI_add]
  have hsize : f_X6_currentSize σ = nI p.length := by
    unfold f_X6_currentSize
    rw [hent, nw_rd (by omega) (by omega), hk.2.1, p2]
  refine ⟨p, len fr d, p1, (hL.1 fr hfr).2 d (by omega), by omega, by omega, by omega, ?_, hsize, fun i x hx => ?_, fun q hq => ?_, fun q h1 h2 => ?_⟩
  · unfold f_X6_currentLength
    rw [hent, nw_rd (by omega) (by omega), hk.1]
  · have hi := (List.getElem?_eq_some_iff.mp hx).1
    obtain ⟨en, g1, g2, g3⟩ := nw_curE_lp i p fr d 0 x jv_fuel p3 hx (nw_fu (by omega)) (by omega)
    rw [Nat.zero_add] at g1
    unfold f_X6_currentEdge
    rw [if_neg (nI_pos (by omega)), hsize, if_pos (nI_lt hi (by omega)), hent, show f_X6_currentEdge_lp21 (nI i) jv_fuel (nI (fr * 50 + d)) (0 : Int32) σ = _ from g1, nw_bd, nw_rd (by omega) (by omega), g3]
  · unfold f_X6_currentEdge
    rw [if_pos hq]
  · unfold f_X6_currentEdge
    rw [if_neg h1, hsize, if_neg h2]
/-! ===== the reference lays the walk of a rank ===== -/
def nw_al (N : nw_N) (to : Nat) (cnt : Nat → Nat) (h y : Nat) : Nat := min (cnt h) (nw_c N to h (y + 1)) - min (cnt h) (nw_c N to h y)
theorem nw_cnt_lp5 {cnt : Nat → Nat} {ln : Nat → Nat → Nat} {σ : jv_S} (hR : nw_R N to cnt ln []) (hK : nw_RK cnt ln σ) {h y : Nat} (hh : h < 10) (hy : y < 2 ^ 30) : ∀ (k j fuel : Nat), j + k = cnt h → k < fuel → ∃ z, f_X8_alike_lp5 (nI h) (nI y) fuel (nI (min j (nw_c N to h (y + 1)) - min j (nw_c N to h y))) (nI j) σ = some (nI (nw_al N to cnt h y), z) := by
  intro k
  have h50 := (hR.1 h hh).1
  induction k with
  | zero =>
    intro j fuel hj hf
    obtain ⟨f, rfl⟩ := nw_f0 hf
    have hj : j = cnt h := by omega
    subst hj
    exact ⟨nI (cnt h), by rw [f_X8_alike_lp5, nw_ck hh (by omega), if_pos rfl, nI_clamp (by omega), hK.1 h hh, if_pos (nI_le (Nat.le_refl _) (by omega))]; rfl⟩
  | succ k ih =>
    intro j fuel hj hf
    obtain ⟨f, rfl, hg⟩ := nw_fe hf
    have ha := (hR.1 h hh).2 j (by omega)
    rw [f_X8_alike_lp5, nw_ck hh (by omega), if_pos rfl, nI_clamp (by omega), hK.1 h hh, if_neg (nI_ge (by omega) (by omega)), show (50 : Int32) = nI 50 from rfl, pk_mul, nI_add, nw_ck (by omega) (by omega), if_pos rfl, nI_clamp (by omega), hK.2 h hh j (by omega), nw_lt, nI_1]
    obtain ⟨z, hz⟩ := ih (j + 1) f (by omega) hg
    refine ⟨z, ?_⟩
    rw [← hz]
    refine congrArg (fun q => f_X8_alike_lp5 (nI h) (nI y) f q (nI (j + 1)) σ) ?_
    have hmono := nw_cmono (N := N) (to := to) (v := h) (show y ≤ y + 1 by omega)
    by_cases c : ln h j = y
    · rw [if_pos (by rw [c])]
      rw [c] at ha
      have h1 := ha.1.1
      have h2 := ha.1.2
      show nI _ + nI 1 = _
      rw [nI_add]
      congr 1
      rw [Nat.min_eq_left (show j ≤ nw_c N to h (y + 1) by omega), Nat.min_eq_left (show j + 1 ≤ nw_c N to h (y + 1) by omega), Nat.min_eq_right (show nw_c N to h y ≤ j by omega), Nat.min_eq_right (show nw_c N to h y ≤ j + 1 by omega)]
      omega
    · rw [if_neg (fun h2 => c ((nI_eq (by omega) (by omega)).mp h2))]
      show nI _ + nI 0 = _
      rw [nI_add, Nat.add_zero]
      congr 1
      have h1 : ¬ (nw_c N to h y ≤ j ∧ j < nw_c N to h (y + 1)) := fun hc => c (nw_at_uniq ha.1 hc)
      omega
theorem nw_cnt_lp5n {cnt : Nat → Nat} {ln : Nat → Nat → Nat} {σ : jv_S} (hR : nw_R N to cnt ln []) (hK : nw_RK cnt ln σ) {h : Nat} {x : Int32} (hh : h < 10) (hx : x.toInt < 0) : ∀ (k j fuel : Nat), j + k = cnt h → k < fuel → ∃ z, f_X8_alike_lp5 (nI h) x fuel (nI 0) (nI j) σ = some (nI 0, z) := by
  intro k
  have h50 := (hR.1 h hh).1
  induction k with
  | zero =>
    intro j fuel hj hf
    obtain ⟨f, rfl⟩ := nw_f0 hf
    have hj : j = cnt h := by omega
    subst hj
    exact ⟨nI (cnt h), by rw [f_X8_alike_lp5, nw_ck hh (by omega), if_pos rfl, nI_clamp (by omega), hK.1 h hh, if_pos (nI_le (Nat.le_refl _) (by omega))]⟩
  | succ k ih =>
    intro j fuel hj hf
    obtain ⟨f, rfl, hg⟩ := nw_fe hf
    have ha := (hR.1 h hh).2 j (by omega)
    rw [f_X8_alike_lp5, nw_ck hh (by omega), if_pos rfl, nI_clamp (by omega), hK.1 h hh, if_neg (nI_ge (by omega) (by omega)), show (50 : Int32) = nI 50 from rfl, pk_mul, nI_add, nw_ck (by omega) (by omega), if_pos rfl, nI_clamp (by omega), hK.2 h hh j (by omega), nw_lt, nI_1]
    rw [if_neg (fun h2 => by rw [← h2, nI_toInt (by omega)] at hx; omega)]
    exact ih (j + 1) f (by omega) hg
def nw_ld (N : nw_N) (to : Nat) (cnt : Nat → Nat) (v L j : Nat) : Nat := nw_if N v j (if nw_l N j ≤ L then nw_al N to cnt (nw_e N j) (L - nw_l N j) else 0)
theorem nw_lead (hW : nw_W N) {cnt : Nat → Nat} {ln : Nat → Nat → Nat} {σ : jv_S} (hM : nw_M N σ) (hR : nw_R N to cnt ln []) (hK : nw_RK cnt ln σ) {v L j : Nat} (hv : v < 10) (hL : L ≤ 1201000) (hj : j < nw_m N) : f_X8_leads σ (nI j) (nI v) (nI L) = some (nI (nw_ld N to cnt v L j)) := by
  have hb := hW.e hj
  have hr := hM.2.2.1 j hj
  unfold f_X8_leads nw_ld
  rw [nw_usM hW hM hj, nw_bd]
  cases hus : nw_us N j
  · rw [if_neg (by decide), nw_bd, nw_if_n (fun h => by have := h.1; rw [hus] at this; cases this)]
    rfl
  · rw [if_pos rfl, nw_ck (by omega) (by omega), if_pos rfl, nI_clamp (by omega), hr.1, hr.2.1, hr.2.2.1]
    by_cases c : nw_t N j = v
    · rw [if_pos (by rw [c]), if_pos rfl, if_pos rfl, nw_if_p ⟨hus, c⟩]
      unfold f_X8_alike
      by_cases c2 : nw_l N j ≤ L
      · rw [if_pos c2, pk_sub c2]
        obtain ⟨z, hz⟩ := nw_cnt_lp5 hR hK hb.2.1 (y := L - nw_l N j) (by omega) (cnt (nw_e N j)) 0 jv_fuel (by omega) (nw_fu (by have := (hR.1 _ hb.2.1).1; omega))
        rw [Nat.zero_min, Nat.zero_min] at hz
        rw [show f_X8_alike_lp5 (nI (nw_e N j)) (nI (L - nw_l N j)) jv_fuel (0 : Int32) (0 : Int32) σ = _ from hz]
        rfl
      · rw [if_neg c2]
        obtain ⟨z, hz⟩ := nw_cnt_lp5n hR hK hb.2.1 (x := nI L - nI (nw_l N j)) (by rw [pk_sub_toInt (by omega) (by omega)]; omega) (cnt (nw_e N j)) 0 jv_fuel (by omega) (nw_fu (by have := (hR.1 _ hb.2.1).1; omega))
        rw [show f_X8_alike_lp5 (nI (nw_e N j)) (nI L - nI (nw_l N j)) jv_fuel (0 : Int32) (0 : Int32) σ = _ from hz]
        rfl
    · rw [if_neg (fun h => c ((nI_eq (by omega) (by omega)).mp h)), nw_bd, nw_if_n (fun h => c h.2)]
      rfl
theorem nw_rfull (hW : nw_W N) {cnt : Nat → Nat} {ln : Nat → Nat → Nat} (hR : nw_R N to cnt ln []) {u : Nat} (hu : u < 10) (hc : cnt u < 50) (T : Nat) : nw_c N to u T ≤ cnt u := nw_Rfull hW hR (P := fun _ => True) (fun _ _ _ _ => trivial) (fun _ _ _ _ => rfl) T trivial u hu hc
theorem nw_rin (hW : nw_W N) {cnt : Nat → Nat} {ln : Nat → Nat → Nat} (hR : nw_R N to cnt ln []) {v r L : Nat} (hv : v < 10) (hr : r < 50) (hat : nw_at N to v r L) : r < cnt v := by
  by_cases c : cnt v < 50
  · have := nw_rfull hW hR hv c (L + 1); have := hat.2; omega
  · omega
theorem nw_inner (hW : nw_W N) {cnt : Nat → Nat} {ln : Nat → Nat → Nat} {σ : jv_S} (hM : nw_M N σ) (hR : nw_R N to cnt ln []) (hK : nw_RK cnt ln σ) {v L e s : Nat} (hv : v < 10) (hL : L ≤ 1201000) (he : e < nw_m N) (hpre : ∀ g, g < e → nw_ld N to cnt v L g = nw_fs N to v L g) (hlast : s < nw_ld N to cnt v L e) (hb : wk_S e (nw_fs N to v L) + s < 1000) (hlb : nw_ld N to cnt v L e < 1000) :
    ∀ (k j fuel q : Nat), j + k = e → k < fuel → q + wk_S j (nw_fs N to v L) = wk_S e (nw_fs N to v L) + s → ∃ z, f_X8_laysWalk_lp35 (nI v) (nI L) fuel (nI q) (nI j) (nI (nw_ld N to cnt v L j)) σ = some (nI s, nI e, z) := by
  intro k
  induction k with
  | zero =>
    intro j fuel q hj hf hq
    obtain ⟨f, rfl⟩ := nw_f0 hf
    have hj : j = e := by omega
    subst hj
    have hqs : q = s := by omega
    subst hqs
    exact ⟨_, by rw [f_X8_laysWalk_lp35, if_pos (nI_lt hlast (by omega))]⟩
  | succ k ih =>
    intro j fuel q hj hf hq
    obtain ⟨f, rfl, hg⟩ := nw_fe hf
    have h1 := hpre j (by omega)
    have h2 := nw_S_mono (f := nw_fs N to v L) (show j + 1 ≤ e by omega)
    have h3 : wk_S (j + 1) (nw_fs N to v L) = wk_S j (nw_fs N to v L) + nw_fs N to v L j := rfl
    rw [f_X8_laysWalk_lp35, if_neg (nI_nlt (by omega) (by omega)), nI_1, nw_lead hW hM hR hK hv hL (by omega), nw_bd, pk_sub (by omega)]
    exact ih (j + 1) f _ (by omega) hg (by omega)
def nw_pL (k j : Nat) : Bool := (k == 35 && j == 27) || k == 48
theorem nw_pL_M (k j : Nat) (h : nw_pM k j = true) : nw_pL k j = false := by
  simp only [nw_pM, nw_pL, Bool.or_eq_true, Bool.and_eq_true, beq_iff_eq, Bool.or_eq_false_iff, Bool.and_eq_false_iff, beq_eq_false_iff_ne] at h ⊢
  omega
theorem nw_lay (hW : nw_W N) {cnt : Nat → Nat} {ln : Nat → Nat → Nat} (hR : nw_R N to cnt ln []) : ∀ (p pre : List Nat) (v r L fuel : Nat) (σ : jv_S), nw_ww N to p v r → nw_at N to v r L → r < 50 → v < 10 → p.length < fuel → nw_M N σ → nw_RK cnt ln σ → nw_rw (σ.1 48) pre → σ.1 35 27 = nI pre.length → (pre ++ p).length < 510 →
    ∃ τ z1 z2 z3, f_X8_laysWalk_lp16 fuel (nI v) (nI L) (nI (r - nw_c N to v L)) σ = some (z1, z2, z3, τ) ∧ nw_f nw_pL σ τ ∧ nw_rw (τ.1 48) (pre ++ p) ∧ τ.1 35 27 = nI (pre ++ p).length := by
  intro p
  have hn := hW.n
  induction p with
  | nil =>
    intro pre v r L fuel σ hw hat hr hv hf hM hK h48 h27 hlen
    obtain ⟨f, rfl⟩ := nw_f0 hf
    have hL0 := nw_at_uniq hat hw
    subst hL0
    refine ⟨σ, nI v, nI 0, nI (r - nw_c N to v 0), by rw [f_X8_laysWalk_lp16, if_pos (show nI 0 ≤ 0 by decide)], nw_f.rfl, ?_, ?_⟩
    · rw [List.append_nil]; exact h48
    · rw [List.append_nil]; exact h27
  | cons e p ih =>
    intro pre v r L fuel σ hw hat hr hv hf hM hK h48 h27 hlen
    obtain ⟨f, rfl, hg⟩ := nw_fe hf
    obtain ⟨L', r', w1, w2, w3, w4, w5, w6, w7, w8⟩ := hw
    have := nw_at_uniq hat w1
    subst this
    have hb := hW.e w3
    have hre := hM.2.2.1 e w3
    have hrc := nw_rin hW hR hv hr hat
    have hlnv := (hR.1 v hv).2 r hrc
    have hLe := nw_at_uniq hat hlnv.1
    have hL : L ≤ 1201000 := by rw [hLe]; exact hlnv.2
    -- the sum of what comes ahead
    have hcv : nw_c N to (nw_e N e) (L - nw_l N e) ≤ nw_c N to v L := by
      rw [nw_crec hW (v := v)]
      have := nw_S_term (f := fun g => nw_if N v g (nw_c N to (nw_e N g) (L - nw_l N g))) w3
      rw [nw_if_p w4] at this
      omega
    have hr' : r' < 50 := by omega
    have hrc' := nw_rin hW hR hb.2.1 hr' w6
    have hpre : ∀ g, g < e → nw_ld N to cnt v L g = nw_fs N to v L g := fun g hg => by
      unfold nw_ld nw_fs
      by_cases cu : nw_ue N v g
      · rw [nw_if_p cu, nw_if_p cu]
        by_cases cl : nw_l N g ≤ L
        · rw [if_pos cl, if_pos cl]
          have hgb := hW.e (show g < nw_m N by omega)
          unfold nw_al
          have hx : nw_c N to (nw_e N g) (L - nw_l N g + 1) ≤ cnt (nw_e N g) := by
            by_cases c50 : cnt (nw_e N g) < 50
            · exact nw_rfull hW hR hgb.2.1 c50 _
            · have h1 := nw_S_mono (f := nw_fs N to v L) (show g + 1 ≤ e by omega)
              have h2 : wk_S (g + 1) (nw_fs N to v L) = wk_S g (nw_fs N to v L) + nw_w N to (nw_e N g) (L - nw_l N g) := by
                show _ + nw_fs N to v L g = _
                unfold nw_fs
                rw [nw_if_p cu, if_pos cl]
              have h3 : nw_c N to (nw_e N g) (L - nw_l N g) ≤ nw_c N to v L := by
                rw [nw_crec hW (v := v)]
                have := nw_S_term (f := fun g => nw_if N v g (nw_c N to (nw_e N g) (L - nw_l N g))) (show g < nw_m N by omega)
                rw [nw_if_p cu] at this
                omega
              have h4 := w6.1
              rw [nw_cs]
              omega
          have hy := nw_cmono (N := N) (to := to) (v := nw_e N g) (show L - nw_l N g ≤ L - nw_l N g + 1 by omega)
          rw [Nat.min_eq_right hx, Nat.min_eq_right (by omega), nw_cs]
          omega
        · rw [if_neg cl, if_neg cl]
      · rw [nw_if_n cu, nw_if_n cu]
    have hlde : nw_ld N to cnt v L e = nw_al N to cnt (nw_e N e) (L - nw_l N e) := by
      unfold nw_ld
      rw [nw_if_p w4, if_pos w5]
    have hw6 := w6.1
    have hw62 := w6.2
    have h50e := (hR.1 _ hb.2.1).1
    have hlast : r' - nw_c N to (nw_e N e) (L - nw_l N e) < nw_ld N to cnt v L e := by
      rw [hlde]
      unfold nw_al
      rw [Nat.min_eq_right (show nw_c N to (nw_e N e) (L - nw_l N e) ≤ cnt (nw_e N e) by omega)]
      have : r' < min (cnt (nw_e N e)) (nw_c N to (nw_e N e) (L - nw_l N e + 1)) := by omega
      omega
    have hldb : nw_ld N to cnt v L e < 1000 := by
      rw [hlde]; unfold nw_al; omega
    rw [f_X8_laysWalk_lp16, if_neg (nI_nle w2 (by omega)), show (0 : Int32) = nI 0 from rfl, nw_lead hW hM hR hK hv hL (by omega), nw_bd]
    have hat1 := hat.1
    obtain ⟨z, hz⟩ := nw_inner hW hM hR hK hv hL w3 hpre hlast (by omega) hldb e 0 jv_fuel (r - nw_c N to v L) (by omega) (nw_fu (by omega)) (by show _ + 0 = _; omega)
    rw [hz, nw_bd]
    simp only [List.length_append, List.length_cons] at hlen
    rw [h27, nw_ck (by omega) (by omega), if_pos rfl, nw_ck (by omega) (by omega), if_pos rfl, if_pos rfl, nI_clamp (by omega), nI_clamp (by omega), hre.2.1, hre.2.2.1, pk_sub w5, nI_1]
    have hf1 : nw_f nw_pL σ (jv_si (jv_si σ 48 pre.length (nI e)) 35 27 (nI (pre.length + 1))) := (nw_f.rfl.si (by rfl)).si (by rfl)
    obtain ⟨τ, z1, z2, z3, g1, g2, g3, g4⟩ := ih (pre ++ [e]) (nw_e N e) r' (L - nw_l N e) f (jv_si (jv_si σ 48 pre.length (nI e)) 35 27 (nI (pre.length + 1))) w8 w6 hr' hb.2.1 hg (hf1.keepM hM nw_pL_M) ⟨by rw [nw_gn (by decide), nw_gn (by decide)]; exact hK.1, by rw [nw_gn (by decide), nw_gn (by decide)]; exact hK.2⟩ (by
      rw [nw_gn (by decide), nw_rw_app]
      refine ⟨fun i x hx => ?_, fun i x hx => ?_⟩
      · have := (List.getElem?_eq_some_iff.mp hx).1
        rw [nw_gj (by omega), h48 i x hx]
      · cases i with
        | zero =>
          simp only [List.getElem?_cons_zero, Option.some.injEq] at hx
          subst hx
          exact nw_gs
        | succ i => simp at hx) (by rw [nw_gs, List.length_append, List.length_singleton]) (by simp; omega)
    have e1 : pre ++ e :: p = pre ++ [e] ++ p := by simp
    rw [e1]
    exact ⟨τ, z1, z2, z3, g1, hf1.trans g2, g3, g4⟩
end NWQ
