/-! ===== walks, counted ===== -/
theorem nw_S_term {n i : Nat} {f : Nat → Nat} (h : i < n) : f i ≤ wk_S n f := by
  induction n with
  | zero => omega
  | succ n ih =>
    show f i ≤ wk_S n f + f n
    by_cases e : i = n
    · subst e; omega
    · have := ih (by omega); omega
theorem nw_S_lt {n i : Nat} {f g : Nat → Nat} (h : ∀ a, a < n → f a ≤ g a) (hi : i < n) (hl : f i < g i) : wk_S n f < wk_S n g := by
  induction n with
  | zero => omega
  | succ n ih =>
    show wk_S n f + f n < wk_S n g + g n
    by_cases e : i = n
    · subst e
      have := wk_S_le (fun a ha => h a (Nat.lt_succ_of_lt ha))
      omega
    · have h1 := ih (fun a ha => h a (by omega)) (by omega)
      have h2 := h n (by omega)
      omega
theorem nw_S_zero {n : Nat} {f : Nat → Nat} (h : ∀ a, a < n → f a = 0) : wk_S n f = 0 := by
  induction n with
  | zero => rfl
  | succ n ih => show wk_S n f + f n = 0; rw [ih (fun a ha => h a (by omega)), h n (by omega)]
theorem nw_S_one {n i v : Nat} (h : i < n) : wk_S n (fun a => if a = i then v else 0) = v := by
  induction n with
  | zero => omega
  | succ n ih =>
    show wk_S n _ + (if n = i then v else 0) = v
    by_cases e : n = i
    · subst e
      rw [if_pos rfl, nw_S_zero (fun a ha => if_neg (by omega)), Nat.zero_add]
    · rw [if_neg e, ih (by omega), Nat.add_zero]
theorem nw_S_pre {n e : Nat} {f : Nat → Nat} (h : e ≤ n) : wk_S n (fun a => if a < e then f a else 0) = wk_S e f := by
  induction n with
  | zero => have : e = 0 := by omega
            subst this; rfl
  | succ n ih =>
    show wk_S n _ + (if n < e then f n else 0) = _
    by_cases c : e = n + 1
    · subst c
      rw [if_pos (by omega)]
      show _ = wk_S n f + f n
      rw [wk_S_congr (g := f) (fun a ha => if_pos (by omega))]
    · rw [if_neg (by omega), ih (by omega), Nat.add_zero]
/-- how many walks of a length, how many shorter ones -/
def nw_w (N : nw_N) (to v L : Nat) : Nat := wk_W (nw_m N) (fun e v => nw_us N e && (nw_t N e == v)) (nw_e N) (nw_l N) to v L
def nw_c (N : nw_N) (to v T : Nat) : Nat := wk_S T (fun l => nw_w N to v l)
/-- an edge that can be used, out of v -/
def nw_ue (N : nw_N) (v e : Nat) : Prop := nw_us N e = true ∧ nw_t N e = v
def nw_if (N : nw_N) (v e x : Nat) : Nat := if nw_us N e = true ∧ nw_t N e = v then x else 0
theorem nw_if_p {N : nw_N} {v e x : Nat} (h : nw_ue N v e) : nw_if N v e x = x := if_pos h
theorem nw_if_n {N : nw_N} {v e x : Nat} (h : ¬ nw_ue N v e) : nw_if N v e x = 0 := if_neg h
section NWW
variable {N : nw_N} {to : Nat}
theorem nw_w0 {v : Nat} : nw_w N to v 0 = if v = to then 1 else 0 := wk_W0
theorem nw_ws (hW : nw_W N) {v L : Nat} (hL : 0 < L) : nw_w N to v L = wk_S (nw_m N) (fun e => nw_if N v e (if nw_l N e ≤ L then nw_w N to (nw_e N e) (L - nw_l N e) else 0)) := by
  unfold nw_w
  rw [wk_WS (fun e he => (hW.e he).2.2.2.2.2.1) hL]
  refine wk_S_congr (fun e _ => ?_)
  unfold nw_if
  simp only [Bool.and_eq_true, beq_iff_eq]
  by_cases c1 : nw_us N e = true ∧ nw_t N e = v
  · by_cases c2 : nw_l N e ≤ L
    · rw [if_pos ⟨c1, c2⟩, if_pos c1, if_pos c2]
    · rw [if_neg (fun h => c2 h.2), if_pos c1, if_neg c2]
  · rw [if_neg (fun h => c1 h.1), if_neg c1]
theorem nw_cs {v T : Nat} : nw_c N to v (T + 1) = nw_c N to v T + nw_w N to v T := rfl
theorem nw_cmono {v T T' : Nat} (h : T ≤ T') : nw_c N to v T ≤ nw_c N to v T' := by
  obtain ⟨d, rfl⟩ := Nat.exists_eq_add_of_le h
  clear h
  induction d with
  | zero => exact Nat.le_refl _
  | succ d ih => rw [← Nat.add_assoc, nw_cs]; omega
theorem nw_crec (hW : nw_W N) {v : Nat} : ∀ T, nw_c N to v T = (if v = to ∧ 0 < T then 1 else 0) + wk_S (nw_m N) (fun e => nw_if N v e (nw_c N to (nw_e N e) (T - nw_l N e))) := by
  intro T
  induction T with
  | zero =>
    rw [if_neg (fun h => by omega), nw_S_zero (fun e _ => ?_)]
    · rfl
    · rw [Nat.zero_sub]
      unfold nw_if
      split <;> rfl
  | succ T ih =>
    rw [nw_cs, ih]
    by_cases hT : T = 0
    · subst hT
      rw [nw_w0, if_neg (fun h => by omega), nw_S_zero (fun e _ => ?_), nw_S_zero (fun e he => ?_)]
      · by_cases c : v = to
        · rw [if_pos c, if_pos ⟨c, by omega⟩]
        · rw [if_neg c, if_neg (fun h => c h.1)]
      · have := hW.e he
        rw [show 0 + 1 - nw_l N e = 0 by omega]
        unfold nw_if
        split <;> rfl
      · rw [Nat.zero_sub]
        unfold nw_if
        split <;> rfl
    · rw [nw_ws hW (by omega)]
      have e1 : (if v = to ∧ 0 < T then 1 else 0) = (if v = to ∧ 0 < T + 1 then 1 else 0) := by
        by_cases c : v = to
        · rw [if_pos ⟨c, by omega⟩, if_pos ⟨c, by omega⟩]
        · rw [if_neg (fun h => c h.1), if_neg (fun h => c h.1)]
      rw [e1, Nat.add_assoc, ← wk_S_add]
      refine congrArg _ (wk_S_congr (fun e he => ?_))
      by_cases c1 : nw_ue N v e
      · rw [nw_if_p c1, nw_if_p c1, nw_if_p c1]
        by_cases c2 : nw_l N e ≤ T
        · rw [if_pos c2, show T + 1 - nw_l N e = (T - nw_l N e) + 1 by omega, nw_cs]
        · rw [if_neg c2, show T + 1 - nw_l N e = T - nw_l N e by omega, Nat.add_zero]
      · rw [nw_if_n c1, nw_if_n c1, nw_if_n c1]
/-- a rank's length -/
def nw_at (N : nw_N) (to v r L : Nat) : Prop := nw_c N to v L ≤ r ∧ r < nw_c N to v (L + 1)
theorem nw_at_uniq {v r L L' : Nat} (h : nw_at N to v r L) (h' : nw_at N to v r L') : L = L' := by
  rcases Nat.lt_trichotomy L L' with e | e | e
  · have := nw_cmono (N := N) (to := to) (v := v) (show L + 1 ≤ L' by omega)
    have := h.2; have := h'.1; omega
  · exact e
  · have := nw_cmono (N := N) (to := to) (v := v) (show L' + 1 ≤ L by omega)
    have := h.1; have := h'.2; omega
theorem nw_at_mono {v r r' L L' : Nat} (h : nw_at N to v r L) (h' : nw_at N to v r' L') (hr : r ≤ r') : L ≤ L' := by
  by_cases e : L ≤ L'
  · exact e
  · have := nw_cmono (N := N) (to := to) (v := v) (show L' + 1 ≤ L by omega)
    have := h.1; have := h'.2; omega
/-! ===== walks listed by and by ===== -/
/-- cnt: how many are listed; len: their lengths; uc: how often an edge was put ahead; fe, rk, sz: an entry's first edge, the rank of its rest, its size -/
def nw_L (N : nw_N) (to : Nat) (cnt : Nat → Nat) (len : Nat → Nat → Nat) (uc : Nat → Nat) (fe rk sz : Nat → Nat → Nat) (M : Nat) : Prop :=
  (∀ v, v < 10 → cnt v ≤ 50 ∧ ∀ r, r < cnt v → nw_at N to v r (len v r)) ∧
  (∀ e, e < nw_m N → nw_us N e = true → uc e ≤ cnt (nw_e N e)) ∧
  (∀ v, v < 10 → cnt v = (if v = to then 1 else 0) + wk_S (nw_m N) (fun e => nw_if N v e (uc e))) ∧
  (∀ e, e < nw_m N → nw_us N e = true → 0 < uc e → ∀ e1, e1 < e → nw_ue N (nw_t N e) e1 → nw_c N to (nw_e N e1) (nw_l N e + len (nw_e N e) (uc e - 1) + 1 - nw_l N e1) ≤ uc e1) ∧
  (∀ e, e < nw_m N → nw_us N e = true → 0 < uc e → nw_l N e + len (nw_e N e) (uc e - 1) ≤ M) ∧
  (∀ e, e < nw_m N → nw_us N e = true → uc e < cnt (nw_e N e) → cnt (nw_t N e) < 50 → M ≤ nw_l N e + len (nw_e N e) (uc e)) ∧
  (∀ v, v < 10 → ∀ r, r < cnt v → (len v r = 0 → sz v r = 0) ∧ (0 < len v r → fe v r < nw_m N ∧ nw_ue N v (fe v r) ∧ rk v r < cnt (nw_e N (fe v r)) ∧ len v r = nw_l N (fe v r) + len (nw_e N (fe v r)) (rk v r) ∧ sz v r = sz (nw_e N (fe v r)) (rk v r) + 1 ∧ r + nw_c N to (nw_e N (fe v r)) (len v r - nw_l N (fe v r)) = nw_c N to v (len v r) + wk_S (fe v r) (fun e => nw_if N v e (if nw_l N e ≤ len v r then nw_w N to (nw_e N e) (len v r - nw_l N e) else 0)) + rk v r))
theorem nw_uc_cnt {cnt uc : Nat → Nat} {e v : Nat} (h3 : ∀ v, v < 10 → cnt v = (if v = to then 1 else 0) + wk_S (nw_m N) (fun e => nw_if N v e (uc e))) (hv : v < 10) (he : e < nw_m N) (hu : nw_ue N v e) : uc e ≤ cnt v := by
  have h := nw_S_term (f := fun e => nw_if N v e (uc e)) he
  rw [nw_if_p hu] at h
  have := h3 v hv
  omega
/-- what is shorter than every candidate is listed -/
theorem nw_full (hW : nw_W N) {cnt uc : Nat → Nat} {len : Nat → Nat → Nat} {fe rk sz : Nat → Nat → Nat} {M : Nat} (hL : nw_L N to cnt len uc fe rk sz M) {P : Nat → Prop} (hP0 : ∀ a b, a ≤ b → P b → P a)
    (hP : ∀ e, e < nw_m N → nw_us N e = true → uc e < cnt (nw_e N e) → cnt (nw_t N e) < 50 → ∀ T, P T → T ≤ nw_l N e + len (nw_e N e) (uc e)) :
    ∀ T, P T → ∀ u, u < 10 → cnt u < 50 → nw_c N to u T ≤ cnt u ∧ ∀ e, e < nw_m N → nw_ue N u e → nw_c N to (nw_e N e) (T - nw_l N e) ≤ uc e := by
  obtain ⟨a1, a2, a3, a4, a5, a6, a7⟩ := hL
  intro T
  induction T using Nat.strongRecOn with
  | _ T ih =>
    intro hPT u hu hc
    have key : ∀ e, e < nw_m N → nw_ue N u e → nw_c N to (nw_e N e) (T - nw_l N e) ≤ uc e := fun e he hue => by
      have hb := hW.e he
      by_cases c1 : uc e < cnt (nw_e N e)
      · have h1 := hP e he hue.1 c1 (by rw [hue.2]; exact hc) T hPT
        have h2 := (a1 _ hb.2.1).2 _ c1
        exact Nat.le_trans (nw_cmono (by omega)) h2.1
      · have h1 := a2 e he hue.1
        by_cases c2 : cnt (nw_e N e) < 50
        · by_cases cT : T = 0
          · subst cT; rw [Nat.zero_sub]; exact Nat.zero_le _
          · have := (ih (T - nw_l N e) (by omega) (hP0 _ T (by omega) hPT) _ hb.2.1 c2).1
            omega
        · have h3 := nw_uc_cnt a3 hu he hue
          omega
    refine ⟨?_, key⟩
    rw [nw_crec hW, a3 u hu]
    refine Nat.add_le_add ?_ (wk_S_le (fun e he => ?_))
    · by_cases c : u = to
      · rw [if_pos c]; split <;> omega
      · rw [if_neg c, if_neg (fun h => c h.1)]; omega
    · by_cases c : nw_ue N u e
      · rw [nw_if_p c, nw_if_p c]; exact key e he c
      · rw [nw_if_n c, nw_if_n c]; exact Nat.le_refl _
theorem nw_L0 (hto : to < 10) {len : Nat → Nat → Nat} {fe rk sz : Nat → Nat → Nat} (hl : len to 0 = 0) (hz : sz to 0 = 0) : nw_L N to (fun v => if v = to then 1 else 0) len (fun _ => 0) fe rk sz 0 := by
  refine ⟨fun v hv => ⟨by dsimp only; split <;> omega, fun r hr => ?_⟩, fun e he hu => Nat.zero_le _, fun v hv => ?_, fun e he hu h => absurd h (Nat.lt_irrefl _), fun e he hu h => absurd h (Nat.lt_irrefl _), fun _ _ _ _ _ => Nat.zero_le _, fun v hv r hr => ?_⟩
  · dsimp only at hr
    by_cases c : v = to
    · subst c
      rw [if_pos rfl] at hr
      have : r = 0 := by omega
      subst this
      rw [hl]
      refine ⟨Nat.zero_le _, ?_⟩
      rw [nw_cs, nw_w0, if_pos rfl]
      omega
    · rw [if_neg c] at hr; omega
  · rw [nw_S_zero (fun e _ => by unfold nw_if; split <;> rfl)]
    rfl
  · dsimp only at hr
    by_cases c : v = to
    · subst c
      rw [if_pos rfl] at hr
      have : r = 0 := by omega
      subst this
      rw [hl]
      exact ⟨fun _ => hz, fun h => absurd h (Nat.lt_irrefl _)⟩
    · rw [if_neg c] at hr; omega
def nw_u2 (f : Nat → Nat → Nat) (v r x : Nat) : Nat → Nat → Nat := fun v' r' => if v' = v ∧ r' = r then x else f v' r'
def nw_u1 (f : Nat → Nat) (v x : Nat) : Nat → Nat := fun v' => if v' = v then x else f v'
theorem nw_u1s {f : Nat → Nat} {v x : Nat} : nw_u1 f v x v = x := if_pos rfl
theorem nw_u1n {f : Nat → Nat} {v x v' : Nat} (h : v' ≠ v) : nw_u1 f v x v' = f v' := if_neg h
theorem nw_u2s {f : Nat → Nat → Nat} {v r x : Nat} : nw_u2 f v r x v r = x := if_pos ⟨rfl, rfl⟩
theorem nw_u2n {f : Nat → Nat → Nat} {v r x v' r' : Nat} (h : v' ≠ v ∨ r' ≠ r) : nw_u2 f v r x v' r' = f v' r' := if_neg (fun h2 => by rcases h with h | h; exact h h2.1; exact h h2.2)
/-- one walk more -/
theorem nw_Ls (hW : nw_W N) (hto : to < 10) {cnt uc : Nat → Nat} {len : Nat → Nat → Nat} {fe rk sz : Nat → Nat → Nat} {M e L : Nat} (hL : nw_L N to cnt len uc fe rk sz M) (he : e < nw_m N) (hu : nw_us N e = true) (h1 : uc e < cnt (nw_e N e)) (h2 : cnt (nw_t N e) < 50) (hLe : L = nw_l N e + len (nw_e N e) (uc e))
    (hmin : ∀ g, g < nw_m N → nw_us N g = true → uc g < cnt (nw_e N g) → cnt (nw_t N g) < 50 → L ≤ nw_l N g + len (nw_e N g) (uc g)) (htie : ∀ g, g < e → nw_ue N (nw_t N e) g → uc g < cnt (nw_e N g) → L < nw_l N g + len (nw_e N g) (uc g)) :
    nw_L N to (nw_u1 cnt (nw_t N e) (cnt (nw_t N e) + 1)) (nw_u2 len (nw_t N e) (cnt (nw_t N e)) L) (nw_u1 uc e (uc e + 1)) (nw_u2 fe (nw_t N e) (cnt (nw_t N e)) e) (nw_u2 rk (nw_t N e) (cnt (nw_t N e)) (uc e)) (nw_u2 sz (nw_t N e) (cnt (nw_t N e)) (sz (nw_e N e) (uc e) + 1)) L := by
  have hf := nw_full hW hL (P := fun T => T ≤ L) (fun a b hab hb => Nat.le_trans hab hb) (fun g hg hgu c1 c2 T hT => Nat.le_trans hT (hmin g hg hgu c1 c2))
  obtain ⟨a1, a2, a3, a4, a5, a6, a7⟩ := id hL
  have hb := hW.e he
  generalize hu0 : nw_t N e = u at *
  generalize hh0 : nw_e N e = h at *
  have hue : nw_ue N u e := ⟨hu, hu0⟩
  have hML : M ≤ L := by rw [hLe]; have := a6 e he hu (by rw [hh0]; exact h1) (by rw [hu0]; exact h2); rw [hh0] at this; exact this
  have hfu := hf L (Nat.le_refl _) u hb.1 h2
  have hat := (a1 h hb.2.1).2 (uc e) h1
  -- what was used is no longer than L
  have hup : ∀ g, g < nw_m N → nw_us N g = true → uc g ≤ nw_c N to (nw_e N g) (L + 1 - nw_l N g) := fun g hg hgu => by
    by_cases c : uc g = 0
    · omega
    · have h3 := a5 g hg hgu (by omega)
      have h4 := a2 g hg hgu
      have h5 := (a1 _ (hW.e hg).2.1).2 (uc g - 1) (by omega)
      have h6 := nw_cmono (N := N) (to := to) (v := nw_e N g) (show len (nw_e N g) (uc g - 1) + 1 ≤ L + 1 - nw_l N g by omega)
      have := h5.2
      omega
  -- what comes ahead of e is used up
  have hlo : ∀ g, g < e → nw_ue N u g → nw_c N to (nw_e N g) (L + 1 - nw_l N g) ≤ uc g := fun g hg hgu => by
    have hbg := hW.e (show g < nw_m N by omega)
    by_cases c1 : uc g < cnt (nw_e N g)
    · have h3 := htie g hg hgu c1
      have h4 := (a1 _ hbg.2.1).2 (uc g) c1
      exact Nat.le_trans (nw_cmono (by omega)) h4.1
    · have h3 := a2 g (by omega) hgu.1
      by_cases c2 : cnt (nw_e N g) < 50
      · have := (hf (L + 1 - nw_l N g) (by omega) _ hbg.2.1 c2).1
        omega
      · have h4 := nw_uc_cnt a3 hb.1 (show g < nw_m N by omega) hgu
        omega
  have hstr : uc e < nw_c N to h (L + 1 - nw_l N e) := by
    rw [show L + 1 - nw_l N e = len h (uc e) + 1 by omega]
    exact hat.2
  have hnew : nw_at N to u (cnt u) L := by
    refine ⟨hfu.1, ?_⟩
    rw [nw_crec hW, a3 u hb.1]
    refine Nat.add_lt_add_of_le_of_lt ?_ (nw_S_lt (i := e) (fun g hg => ?_) he ?_)
    · by_cases c : u = to
      · rw [if_pos c, if_pos ⟨c, by omega⟩]; omega
      · rw [if_neg c]; omega
    · by_cases c : nw_ue N u g
      · rw [nw_if_p c, nw_if_p c]; exact hup g hg c.1
      · rw [nw_if_n c, nw_if_n c]; exact Nat.le_refl _
    · rw [nw_if_p hue, nw_if_p hue, hh0]; exact hstr
  have hne : h ≠ u := fun e2 => by omega
  have hidx : cnt u + nw_c N to h (L - nw_l N e) = nw_c N to u L + wk_S e (fun g => nw_if N u g (if nw_l N g ≤ L then nw_w N to (nw_e N g) (L - nw_l N g) else 0)) + uc e := by
    have hpt : wk_S (nw_m N) (fun g => nw_if N u g (uc g)) + wk_S (nw_m N) (fun g => if g = e then nw_c N to h (L - nw_l N e) else 0) = wk_S (nw_m N) (fun g => nw_if N u g (nw_c N to (nw_e N g) (L - nw_l N g))) + wk_S (nw_m N) (fun g => if g < e then nw_if N u g (if nw_l N g ≤ L then nw_w N to (nw_e N g) (L - nw_l N g) else 0) else 0) + wk_S (nw_m N) (fun g => if g = e then uc e else 0) := by
      rw [← wk_S_add, ← wk_S_add, ← wk_S_add]
      refine wk_S_congr (fun g hg => ?_)
      by_cases cu : nw_ue N u g
      · rw [nw_if_p cu, nw_if_p cu, nw_if_p cu]
        rcases Nat.lt_trichotomy g e with c | c | c
        · rw [if_neg (show ¬ g = e by omega), if_pos c, if_neg (show ¬ g = e by omega)]
          have h3 := hlo g c cu
          have h4 := hup g hg cu.1
          by_cases c2 : nw_l N g ≤ L
          · rw [if_pos c2]
            rw [show L + 1 - nw_l N g = (L - nw_l N g) + 1 by omega, nw_cs] at h3 h4
            omega
          · rw [if_neg c2]
            rw [show L + 1 - nw_l N g = L - nw_l N g by omega] at h3 h4
            omega
        · subst c
          rw [if_pos rfl, if_neg (show ¬ g < g by omega), if_pos rfl, hh0]
          omega
        · rw [if_neg (show ¬ g = e by omega), if_neg (show ¬ g < e by omega), if_neg (show ¬ g = e by omega)]
          have h3 := hfu.2 g hg cu
          have h4 : uc g ≤ nw_c N to (nw_e N g) (L - nw_l N g) := by
            by_cases c5 : uc g ≤ nw_c N to (nw_e N g) (L - nw_l N g)
            · exact c5
            · exfalso
              have h6 := a2 g hg cu.1
              have h7 := (a1 _ (hW.e hg).2.1).2 (uc g - 1) (by omega)
              have h8 : L - nw_l N g ≤ len (nw_e N g) (uc g - 1) := by
                by_cases c6 : L - nw_l N g ≤ len (nw_e N g) (uc g - 1)
                · exact c6
                · have := nw_cmono (N := N) (to := to) (v := nw_e N g) (show len (nw_e N g) (uc g - 1) + 1 ≤ L - nw_l N g by omega)
                  have := h7.2
                  omega
              have h9 := a4 g hg cu.1 (by omega) e c (by rw [cu.2]; exact hue)
              rw [hh0] at h9
              have h10 := nw_cmono (N := N) (to := to) (v := h) (show L + 1 - nw_l N e ≤ nw_l N g + len (nw_e N g) (uc g - 1) + 1 - nw_l N e by omega)
              omega
          omega
      · have cge : g ≠ e := fun c => cu (c ▸ hue)
        rw [nw_if_n cu, nw_if_n cu, nw_if_n cu, if_neg cge, if_neg cge]
        split <;> rfl
    rw [nw_S_one he, nw_S_one he, nw_S_pre (by omega)] at hpt
    rw [nw_crec hW (v := u), a3 u hb.1]
    have h0 : (if u = to ∧ 0 < L then 1 else 0) = (if u = to then 1 else 0) := by
      by_cases c : u = to
      · rw [if_pos c, if_pos ⟨c, by omega⟩]
      · rw [if_neg c, if_neg (fun h => c h.1)]
    rw [h0]
    omega
  have hcu : ∀ v, cnt v ≤ nw_u1 cnt u (cnt u + 1) v := fun v => by
    by_cases c : v = u
    · subst c; rw [nw_u1s]; omega
    · rw [nw_u1n c]; exact Nat.le_refl _
  have hlen : ∀ v r, r < cnt v → nw_u2 len u (cnt u) L v r = len v r := fun v r hr => nw_u2n (by
    by_cases c : v = u
    · subst c; right; omega
    · left; exact c)
  have hucg : ∀ g, uc g ≤ nw_u1 uc e (uc e + 1) g := fun g => by
    by_cases c : g = e
    · subst c; rw [nw_u1s]; omega
    · rw [nw_u1n c]; exact Nat.le_refl _
  refine ⟨fun v hv => ⟨?_, fun r hr => ?_⟩, fun g hg hgu => ?_, fun v hv => ?_, fun g hg hgu h3 e1 he1 hue1 => ?_, fun g hg hgu h3 => ?_, fun g hg hgu h3 h4 => ?_, fun v hv r hr => ?_⟩
  · by_cases c : v = u
    · subst c; rw [nw_u1s]; omega
    · rw [nw_u1n c]; exact (a1 v hv).1
  · by_cases c : v = u
    · subst c
      rw [nw_u1s] at hr
      by_cases c2 : r = cnt v
      · subst c2; rw [nw_u2s]; exact hnew
      · rw [nw_u2n (Or.inr c2)]; exact (a1 v hv).2 r (by omega)
    · rw [nw_u1n c] at hr
      rw [nw_u2n (Or.inl c)]; exact (a1 v hv).2 r hr
  · by_cases c : g = e
    · subst c; rw [nw_u1s, hh0, nw_u1n hne]; exact h1
    · rw [nw_u1n c]; exact Nat.le_trans (a2 g hg hgu) (hcu _)
  · by_cases c : v = u
    · subst c
      rw [nw_u1s]
      have e1 : wk_S (nw_m N) (fun g => nw_if N v g (nw_u1 uc e (uc e + 1) g)) = wk_S (nw_m N) (fun g => nw_if N v g (uc g)) + wk_S (nw_m N) (fun a => if a = e then 1 else 0) := by
        rw [← wk_S_add]
        refine wk_S_congr (fun g _ => ?_)
        by_cases c2 : g = e
        · subst c2; rw [nw_if_p hue, nw_if_p hue, nw_u1s, if_pos rfl]
        · rw [nw_u1n c2, if_neg c2, Nat.add_zero]
      rw [e1, nw_S_one he]
      have := a3 v hv
      omega
    · rw [nw_u1n c, a3 v hv]
      refine congrArg _ (wk_S_congr (fun g _ => ?_))
      by_cases c2 : g = e
      · subst c2
        have : ¬ nw_ue N v g := fun h => c (by rw [← h.2, hu0])
        rw [nw_if_n this, nw_if_n this]
      · rw [nw_u1n c2]
  · by_cases c : g = e
    · subst c
      rw [hu0] at hue1
      rw [nw_u1s, hh0, show uc g + 1 - 1 = uc g by omega, hlen _ _ h1, nw_u1n (by omega), ← hLe]
      exact hlo e1 he1 hue1
    · rw [nw_u1n c] at h3 ⊢
      have h6 := a2 g hg hgu
      rw [hlen _ _ (by omega)]
      exact Nat.le_trans (a4 g hg hgu h3 e1 he1 hue1) (hucg _)
  · by_cases c : g = e
    · subst c
      rw [nw_u1s, hh0, show uc g + 1 - 1 = uc g by omega, hlen _ _ h1, ← hLe]
      exact Nat.le_refl _
    · rw [nw_u1n c] at h3 ⊢
      have h6 := a2 g hg hgu
      rw [hlen _ _ (by omega)]
      exact Nat.le_trans (a5 g hg hgu h3) hML
  · have h5 : cnt (nw_t N g) < 50 := Nat.lt_of_le_of_lt (hcu _) h4
    by_cases c : g = e
    · subst c
      rw [nw_u1s, hh0] at h3 ⊢
      rw [nw_u1n hne] at h3
      rw [hlen _ _ h3]
      have := nw_at_mono hat ((a1 h hb.2.1).2 _ h3) (by omega)
      omega
    · rw [nw_u1n c] at h3 ⊢
      by_cases c2 : uc g < cnt (nw_e N g)
      · rw [hlen _ _ c2]; exact hmin g hg hgu c2 h5
      · by_cases c3 : nw_e N g = u
        · rw [c3] at h3 c2 ⊢
          rw [nw_u1s] at h3
          rw [show uc g = cnt u by omega, nw_u2s]
          omega
        · rw [nw_u1n c3] at h3; omega
  · have hold : ∀ v r, r < cnt v → v < 10 → (nw_u2 len u (cnt u) L v r = 0 → nw_u2 sz u (cnt u) (sz h (uc e) + 1) v r = 0) ∧ (0 < nw_u2 len u (cnt u) L v r → nw_u2 fe u (cnt u) e v r < nw_m N ∧ nw_ue N v (nw_u2 fe u (cnt u) e v r) ∧ nw_u2 rk u (cnt u) (uc e) v r < nw_u1 cnt u (cnt u + 1) (nw_e N (nw_u2 fe u (cnt u) e v r)) ∧ nw_u2 len u (cnt u) L v r = nw_l N (nw_u2 fe u (cnt u) e v r) + nw_u2 len u (cnt u) L (nw_e N (nw_u2 fe u (cnt u) e v r)) (nw_u2 rk u (cnt u) (uc e) v r) ∧ nw_u2 sz u (cnt u) (sz h (uc e) + 1) v r = nw_u2 sz u (cnt u) (sz h (uc e) + 1) (nw_e N (nw_u2 fe u (cnt u) e v r)) (nw_u2 rk u (cnt u) (uc e) v r) + 1 ∧ r + nw_c N to (nw_e N (nw_u2 fe u (cnt u) e v r)) (nw_u2 len u (cnt u) L v r - nw_l N (nw_u2 fe u (cnt u) e v r)) = nw_c N to v (nw_u2 len u (cnt u) L v r) + wk_S (nw_u2 fe u (cnt u) e v r) (fun g => nw_if N v g (if nw_l N g ≤ nw_u2 len u (cnt u) L v r then nw_w N to (nw_e N g) (nw_u2 len u (cnt u) L v r - nw_l N g) else 0)) + nw_u2 rk u (cnt u) (uc e) v r) := fun v r hr hv => by
      have hq : v ≠ u ∨ r ≠ cnt u := by
        by_cases c : v = u
        · subst c; right; omega
        · left; exact c
      obtain ⟨b1, b2⟩ := a7 v hv r hr
      rw [nw_u2n hq, nw_u2n hq, nw_u2n hq, nw_u2n hq]
      refine ⟨b1, fun hp => ?_⟩
      obtain ⟨d1, d2, d3, d4, d5, d6⟩ := b2 hp
      have hq2 : nw_e N (fe v r) ≠ u ∨ rk v r ≠ cnt u := by
        by_cases c : nw_e N (fe v r) = u
        · right; rw [c] at d3; omega
        · left; exact c
      refine ⟨d1, d2, Nat.lt_of_lt_of_le d3 (hcu _), ?_, ?_, d6⟩
      · rw [nw_u2n hq2]; exact d4
      · rw [nw_u2n hq2]; exact d5
    by_cases c : v = u
    · subst c
      rw [nw_u1s] at hr
      by_cases c2 : r = cnt v
      · subst c2
        rw [nw_u2s, nw_u2s, nw_u2s, nw_u2s]
        refine ⟨fun h => by omega, fun _ => ⟨he, hue, ?_, ?_, ?_, ?_⟩⟩
        · rw [hh0, nw_u1n hne]; exact h1
        · rw [hh0, nw_u2n (Or.inl hne)]; exact hLe
        · rw [hh0, nw_u2n (Or.inl hne)]
        · rw [hh0]; exact hidx
      · exact hold v r (by omega) hv
    · rw [nw_u1n c] at hr
      exact hold v r hr hv
end NWW
