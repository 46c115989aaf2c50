/-! ===== the walk of a rank ===== -/
def nw_fs (N : nw_N) (to v L g : Nat) : Nat := nw_if N v g (if nw_l N g ≤ L then nw_w N to (nw_e N g) (L - nw_l N g) else 0)
def nw_ww (N : nw_N) (to : Nat) : List Nat → Nat → Nat → Prop
  | [], v, r => nw_at N to v r 0
  | e :: p, v, r => ∃ L r', nw_at N to v r L ∧ 0 < L ∧ e < nw_m N ∧ nw_ue N v e ∧ nw_l N e ≤ L ∧ nw_at N to (nw_e N e) r' (L - nw_l N e) ∧ r + nw_c N to (nw_e N e) (L - nw_l N e) = nw_c N to v L + wk_S e (nw_fs N to v L) + r' ∧ nw_ww N to p (nw_e N e) r'
section NWQ
variable {N : nw_N} {to : Nat}
theorem nw_S_mono {a b : Nat} {f : Nat → Nat} (h : a ≤ b) : wk_S a f ≤ wk_S b f := by
  obtain ⟨d, rfl⟩ := Nat.exists_eq_add_of_le h
  clear h
  induction d with
  | zero => exact Nat.le_refl _
  | succ d ih => exact Nat.le_trans ih (Nat.le_add_right _ _)
theorem nw_ww_lt {v L e e' r r' r2 : Nat} (hue : nw_ue N v e) (hl : nw_l N e ≤ L) (h1 : nw_at N to (nw_e N e) r' (L - nw_l N e)) (h2 : r + nw_c N to (nw_e N e) (L - nw_l N e) = nw_c N to v L + wk_S e (nw_fs N to v L) + r') (h3 : nw_at N to (nw_e N e') r2 (L - nw_l N e')) (h4 : r + nw_c N to (nw_e N e') (L - nw_l N e') = nw_c N to v L + wk_S e' (nw_fs N to v L) + r2) : ¬ e < e' := fun h => by
  have h5 := nw_S_mono (f := nw_fs N to v L) (show e + 1 ≤ e' by omega)
  have h6 : wk_S (e + 1) (nw_fs N to v L) = wk_S e (nw_fs N to v L) + nw_w N to (nw_e N e) (L - nw_l N e) := by
    show _ + nw_fs N to v L e = _
    unfold nw_fs
    rw [nw_if_p hue, if_pos hl]
  have h7 := h1.2
  rw [nw_cs] at h7
  have h8 := h3.1
  omega
theorem nw_ww_uniq : ∀ (p q : List Nat) (v r : Nat), nw_ww N to p v r → nw_ww N to q v r → p = q := by
  intro p
  induction p with
  | nil =>
    intro q v r h1 h2
    cases q with
    | nil => rfl
    | cons e q =>
      obtain ⟨L, r', g1, g2, -⟩ := h2
      have := nw_at_uniq h1 g1
      omega
  | cons e p ih =>
    intro q v r h1 h2
    obtain ⟨L, r', g1, g2, g3, g4, g5, g6, g7, g8⟩ := h1
    cases q with
    | nil => have := nw_at_uniq g1 h2; omega
    | cons e' q =>
      obtain ⟨L', r2, k1, k2, k3, k4, k5, k6, k7, k8⟩ := h2
      have := nw_at_uniq g1 k1
      subst this
      have a1 := nw_ww_lt g4 g5 g6 g7 k6 k7
      have a2 := nw_ww_lt k4 k5 k6 k7 g6 g7
      have e1 : e = e' := by omega
      subst e1
      have e2 : r' = r2 := by omega
      subst e2
      rw [ih q _ _ g8 k8]
/-- the class's rows lead along a walk -/
def nw_ch (N : nw_N) (σ : jv_S) : List Nat → Nat → Nat → Prop
  | [], _, _ => True
  | e :: p, v, r => v * 50 + r < 500 ∧ σ.1 20 (v * 50 + r) = nI e ∧ ∃ v' r', σ.1 21 (v * 50 + r) = nI (v' * 50 + r') ∧ nw_ch N σ p v' r'
theorem nw_list_ww (hW : nw_W N) {cnt uc : Nat → Nat} {len fe rk sz : Nat → Nat → Nat} {M : Nat} {σ : jv_S} (hL : nw_L N to cnt len uc fe rk sz M) (hK : nw_KW N cnt len uc fe rk sz σ) : ∀ (L v r : Nat), v < 10 → r < cnt v → len v r = L → ∃ p, nw_ww N to p v r ∧ p.length = sz v r ∧ nw_ch N σ p v r := by
  intro L
  induction L using Nat.strongRecOn with
  | _ L ih =>
    intro v r hv hr hlen
    have hat := (hL.1 v hv).2 r hr
    obtain ⟨a1, a2⟩ := hL.2.2.2.2.2.2 v hv r hr
    by_cases c : L = 0
    · rw [hlen] at hat a1
      subst c
      exact ⟨[], hat, by rw [a1 rfl]; rfl, trivial⟩
    · obtain ⟨b1, b2, b3, b4, b5, b6⟩ := a2 (by omega)
      have hb := hW.e b1
      obtain ⟨p, p1, p2, p3⟩ := ih (len (nw_e N (fe v r)) (rk v r)) (by omega) _ _ hb.2.1 b3 rfl
      have hat2 := (hL.1 _ hb.2.1).2 _ b3
      have h50 := (hL.1 v hv).1
      have hk := hK.2.2 v hv r hr
      refine ⟨fe v r :: p, ⟨len v r, rk v r, hat, by omega, b1, b2, by omega, ?_, b6, p1⟩, by rw [List.length_cons, p2, b5], ⟨by omega, (hk.2.2.1 (by omega)).1, _, _, (hk.2.2.1 (by omega)).2, p3⟩⟩
      rw [b4, Nat.add_sub_cancel_left]
      exact hat2
theorem nw_curE_lp {σ : jv_S} : ∀ (i : Nat) (p : List Nat) (v r j x fuel : Nat), nw_ch N σ p v r → p[i]? = some x → i < fuel → j + i < 1000 → ∃ en, f_X6_currentEdge_lp21 (nI (j + i)) fuel (nI (v * 50 + r)) (nI j) σ = some (nI en, nI (j + i)) ∧ en < 500 ∧ σ.1 20 en = nI x := by
  intro i
  induction i with
  | zero =>
    intro p v r j x fuel hc hx hf hj
    obtain ⟨f, rfl⟩ := nw_f0 hf
    cases p with
    | nil => simp at hx
    | cons e p =>
      simp only [List.getElem?_cons_zero, Option.some.injEq] at hx
      subst hx
      exact ⟨v * 50 + r, by rw [f_X6_currentEdge_lp21, if_pos (nI_le (by omega) (by omega))]; rfl, hc.1, hc.2.1⟩
  | succ i ih =>
    intro p v r j x fuel hc hx hf hj
    obtain ⟨f, rfl, hg⟩ := nw_fe hf
    cases p with
    | nil => simp at hx
    | cons e p =>
      rw [List.getElem?_cons_succ] at hx
      obtain ⟨c1, c2, v', r', c3, c4⟩ := hc
      rw [f_X6_currentEdge_lp21, if_neg (nI_ge (by omega) (by omega)), nw_rd (by omega) (by omega), c3, nI_1]
      have := ih p v' r' (j + 1) x f c4 hx hg (by omega)
      rw [show j + 1 + i = j + (i + 1) by omega] at this
      exact this
/-- what the class's draw shows of the last walk -/
theorem nw_wcur (hW : nw_W N) {fr d : Nat} {σ : jv_S} (hfr : fr < 10) (h : nw_WC N fr to (d + 1) σ) : ∃ p L, nw_ww N to p fr d ∧ nw_at N to fr d L ∧ d < 50 ∧ L ≤ 500000 ∧ p.length < 500 ∧ f_X6_currentLength σ = nI L ∧ f_X6_currentSize σ = nI p.length ∧ (∀ i x, p[i]? = some x → f_X6_currentEdge σ (nI i) = some (nI x)) ∧ (∀ q : Int32, q < 0 → f_X6_currentEdge σ q = some (-1 : Int32)) ∧ ∀ q : Int32, ¬ q < 0 → ¬ q < nI p.length → f_X6_currentEdge σ q = some (-1 : Int32) := by
  obtain ⟨h7, h8, cnt, tot, ⟨len, uc, fe, rk, sz, M, hL, hK, ht⟩, ht1, hdc⟩ := h
  have hS := nw_S10 (fun v hv => (hL.1 v hv).1)
  have h50 := (hL.1 fr hfr).1
  obtain ⟨p, p1, p2, p3⟩ := nw_list_ww hW hL hK _ fr d hfr (by omega) rfl
  have hk := hK.2.2 fr hfr d (by omega)
  have hent : f_X6_currentEntry σ = nI (fr * 50 + d) := by
    unfold f_X6_currentEntry f_X6_entry
    rw [h7, h8, nI_pred, show (50 : Int32) = nI 50 from rfl, pk_mul, nI_add]
  have hsize : f_X6_currentSize σ = nI p.length := by
    unfold f_X6_currentSize
    rw [hent, nw_rd (by omega) (by omega), hk.2.1, p2]
  refine ⟨p, len fr d, p1, (hL.1 fr hfr).2 d (by omega), by omega, by omega, by omega, ?_, hsize, fun i x hx => ?_, fun q hq => ?_, fun q h1 h2 => ?_⟩
  · unfold f_X6_currentLength
    rw [hent, nw_rd (by omega) (by omega), hk.1]
  · have hi := (List.getElem?_eq_some_iff.mp hx).1
    obtain ⟨en, g1, g2, g3⟩ := nw_curE_lp i p fr d 0 x jv_fuel p3 hx (nw_fu (by omega)) (by omega)
    rw [Nat.zero_add] at g1
    unfold f_X6_currentEdge
    rw [if_neg (nI_pos (by omega)), hsize, if_pos (nI_lt hi (by omega)), hent, show f_X6_currentEdge_lp21 (nI i) jv_fuel (nI (fr * 50 + d)) (0 : Int32) σ = _ from g1, nw_bd, nw_rd (by omega) (by omega), g3]
  · unfold f_X6_currentEdge
    rw [if_pos hq]
  · unfold f_X6_currentEdge
    rw [if_neg h1, hsize, if_neg h2]
/-! ===== the reference lays the walk of a rank ===== -/
end NWQ
