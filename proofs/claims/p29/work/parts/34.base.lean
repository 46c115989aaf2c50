/-! ===== reads and writes of the store at known places ===== -/
theorem nw_rd {α : Type} {f : Nat → α} {n p : Nat} {z : α} (h : p < n) (hn : n < 2 ^ 31) : jv_rd f n z (nI p) = f p := by
  unfold jv_rd
  rw [if_neg (nI_pos (by omega)), if_neg (nI_ge h hn), nI_clamp (by omega)]
theorem nw_wr {σ : jv_S} {k n p : Nat} {v : Int32} (h : p < n) (hn : n < 2 ^ 31) : jv_wr σ k n (nI p) v = jv_si σ k p v := by
  unfold jv_wr
  rw [if_neg (nI_pos (by omega)), if_neg (nI_ge h hn), nI_clamp (by omega)]
theorem nw_wrl {σ : jv_S} {k n p : Nat} {v : Int64} (h : p < n) (hn : n < 2 ^ 31) : jv_wrl σ k n (nI p) v = jv_sl σ k p v := by
  unfold jv_wrl
  rw [if_neg (nI_pos (by omega)), if_neg (nI_ge h hn), nI_clamp (by omega)]
theorem nw_ck {p n : Nat} (h : p < n) (hn : n < 2 ^ 31) : jv_ck (nI p) n = true := by
  unfold jv_ck
  rw [nI_toInt (show p < 2 ^ 31 by omega)]
  simp only [Bool.and_eq_true, decide_eq_true_eq]
  omega
theorem nw_gs {σ : jv_S} {k j : Nat} {x : Int32} : (jv_si σ k j x).1 k j = x := by simp [jv_si, jv_u, upd]
theorem nw_gn {σ : jv_S} {k j k' : Nat} {x : Int32} (h : k' ≠ k) : (jv_si σ k j x).1 k' = σ.1 k' := by simp [jv_si, jv_u, h]
theorem nw_gj {σ : jv_S} {k j k' j' : Nat} {x : Int32} (h : j' ≠ j) : (jv_si σ k j x).1 k' j' = σ.1 k' j' := by
  by_cases e : k' = k
  · subst e; simp [jv_si, jv_u, upd, h]
  · rw [nw_gn e]
theorem nw_g {σ : jv_S} {k j k' j' : Nat} {x : Int32} : (jv_si σ k j x).1 k' j' = if k' = k ∧ j' = j then x else σ.1 k' j' := by
  by_cases e : k' = k
  · subst e
    by_cases e2 : j' = j
    · subst e2; rw [nw_gs, if_pos ⟨rfl, rfl⟩]
    · rw [nw_gj e2, if_neg (fun h => e2 h.2)]
  · rw [nw_gn e, if_neg (fun h => e h.1)]
theorem nw_g2 {σ : jv_S} {k j : Nat} {x : Int32} : (jv_si σ k j x).2 = σ.2 := rfl
theorem nw_h1 {σ : jv_S} {k j : Nat} {x : Int64} : (jv_sl σ k j x).1 = σ.1 := rfl
theorem nw_hs {σ : jv_S} {k j : Nat} {x : Int64} : (jv_sl σ k j x).2 k j = x := by simp [jv_sl, jv_u, vp_updL]
theorem nw_hn {σ : jv_S} {k j k' : Nat} {x : Int64} (h : k' ≠ k) : (jv_sl σ k j x).2 k' = σ.2 k' := by simp [jv_sl, jv_u, h]
theorem nw_hj {σ : jv_S} {k j k' j' : Nat} {x : Int64} (h : j' ≠ j) : (jv_sl σ k j x).2 k' j' = σ.2 k' j' := by
  by_cases e : k' = k
  · subst e; simp [jv_sl, jv_u, vp_updL, h]
  · rw [nw_hn e]
theorem nw_h {σ : jv_S} {k j k' j' : Nat} {x : Int64} : (jv_sl σ k j x).2 k' j' = if k' = k ∧ j' = j then x else σ.2 k' j' := by
  by_cases e : k' = k
  · subst e
    by_cases e2 : j' = j
    · subst e2; rw [nw_hs, if_pos ⟨rfl, rfl⟩]
    · rw [nw_hj e2, if_neg (fun h => e2 h.2)]
  · rw [nw_hn e, if_neg (fun h => e h.1)]
theorem nw_fl {σ : jv_S} {k n j : Nat} {v : Int32} : (jv_fl σ k n v).1 k j = if j < n then v else σ.1 k j := by simp [jv_fl, jv_u]
theorem nw_fln {σ : jv_S} {k n k' : Nat} {v : Int32} (h : k' ≠ k) : (jv_fl σ k n v).1 k' = σ.1 k' := by simp [jv_fl, jv_u, h]
theorem nw_fl2 {σ : jv_S} {k n : Nat} {v : Int32} : (jv_fl σ k n v).2 = σ.2 := rfl
theorem nw_fe {k n : Nat} (h : k + 1 < n) : ∃ f, n = f + 1 ∧ k < f := ⟨n - 1, by omega, by omega⟩
theorem nw_f0 {n : Nat} (h : 0 < n) : ∃ f, n = f + 1 := ⟨n - 1, by omega⟩
theorem nw_bd {α β : Type} {a : α} {f : α → Option β} : jv_bd (some a) f = f a := rfl
theorem nw_lt {α β : Type} {a : α} {f : α → β} : jv_lt a f = f a := rfl
/-! ===== what stays: P names the cells that may change ===== -/
def nw_f (P : Nat → Nat → Bool) (σ τ : jv_S) : Prop := ∀ k j, P k j = false → τ.1 k j = σ.1 k j ∧ τ.2 k j = σ.2 k j
theorem nw_f.rfl {P : Nat → Nat → Bool} {σ : jv_S} : nw_f P σ σ := fun _ _ _ => ⟨Eq.refl _, Eq.refl _⟩
theorem nw_f.trans {P : Nat → Nat → Bool} {σ τ ρ : jv_S} (h : nw_f P σ τ) (h2 : nw_f P τ ρ) : nw_f P σ ρ := fun k j e => ⟨(h2 k j e).1.trans (h k j e).1, (h2 k j e).2.trans (h k j e).2⟩
theorem nw_f.mono {P Q : Nat → Nat → Bool} {σ τ : jv_S} (h : nw_f P σ τ) (hq : ∀ k j, Q k j = false → P k j = false) : nw_f Q σ τ := fun k j e => h k j (hq k j e)
theorem nw_f.si {P : Nat → Nat → Bool} {σ τ : jv_S} {k j : Nat} {x : Int32} (h : nw_f P σ τ) (hk : P k j = true) : nw_f P σ (jv_si τ k j x) := by
  intro k' j' e
  have h1 : ¬ (k' = k ∧ j' = j) := by rintro ⟨rfl, rfl⟩; rw [hk] at e; cases e
  rw [nw_g, if_neg h1]
  exact h k' j' e
theorem nw_f.sl {P : Nat → Nat → Bool} {σ τ : jv_S} {k j : Nat} {x : Int64} (h : nw_f P σ τ) (hk : P k j = true) : nw_f P σ (jv_sl τ k j x) := by
  intro k' j' e
  have h1 : ¬ (k' = k ∧ j' = j) := by rintro ⟨rfl, rfl⟩; rw [hk] at e; cases e
  rw [nw_h, if_neg h1]
  exact h k' j' e
theorem nw_f.fl {P : Nat → Nat → Bool} {σ τ : jv_S} {k n : Nat} {x : Int32} (h : nw_f P σ τ) (hk : ∀ j, P k j = true) : nw_f P σ (jv_fl τ k n x) := by
  intro k' j' e
  have h1 : k' ≠ k := by rintro rfl; rw [hk] at e; cases e
  rw [nw_fln h1]
  exact h k' j' e
/-- one whole row -/
def nw_r (a : Nat) : Nat → Nat → Bool := fun k _ => k == a
theorem nw_r_t {a j : Nat} : nw_r a a j = true := by simp [nw_r]
theorem nw_f.row {a : Nat} {σ τ : jv_S} (h : nw_f (nw_r a) σ τ) {k : Nat} (hk : k ≠ a) : τ.1 k = σ.1 k := funext fun j => (h k j (by simp [nw_r, hk])).1
theorem nw_f.lng {P : Nat → Nat → Bool} {σ τ : jv_S} (h : nw_f P σ τ) {k : Nat} (hk : ∀ j, P k j = false) : τ.1 k = σ.1 k ∧ τ.2 k = σ.2 k := ⟨funext fun j => (h k j (hk j)).1, funext fun j => (h k j (hk j)).2⟩
/-! ===== bits ===== -/
theorem nw_b1 : ∀ i, i < 32 → bt (1 : Int32) i = decide (i = 0) := by decide +kernel
theorem nw_and1 (x : Int32) : (x &&& (1 : Int32)) = 0 ↔ bt x 0 = false := by
  constructor
  · intro h
    have := congrArg (fun y => bt y 0) h
    simpa [b_and, nw_b1, b_0] using this
  · intro h
    refine b_ext (fun i hi => ?_)
    rw [b_and, b_0, nw_b1 i hi]
    by_cases e : i = 0
    · subst e; rw [h]; rfl
    · simp [e]
theorem nw_hb {σ : jv_S} {x : Int32} {i : Nat} (hi : i < 32) : f_X7_hasBit σ x (nI i) = bt x i := by
  unfold f_X7_hasBit jv_lt
  by_cases e : bt x i = true
  · rw [if_neg (fun h => ?_), e]
    have := (nw_and1 _).mp h
    rw [b_ushr i hi, Nat.add_zero, e] at this
    cases this
  · have e := Bool.eq_false_iff.mpr e
    rw [if_pos ((nw_and1 _).mpr (by rw [b_ushr i hi, Nat.add_zero, e])), e]
theorem nw_sh {i j : Nat} (hi : i < 32) (hj : j < 32) : bt ((1 : Int32) <<< (nI i &&& 31)) j = decide (j = i) := by
  rw [b_shl i hi _ hj, nw_b1 _ (by omega)]
  by_cases e : j = i
  · subst e; simp
  · by_cases e2 : i ≤ j
    · simp [e, show ¬ j - i = 0 by omega]
    · simp [e, e2]
/-- a bit set, a bit turned -/
theorem nw_or1 {x : Int32} {i j : Nat} (hi : i < 32) (hj : j < 32) : bt (x ||| ((1 : Int32) <<< (nI i &&& 31))) j = (bt x j || decide (j = i)) := by rw [b_or, nw_sh hi hj]
theorem nw_xor1 {x : Int32} {i j : Nat} (hi : i < 32) (hj : j < 32) : bt (x ^^^ ((1 : Int32) <<< (nI i &&& 31))) j = (bt x j ^^ decide (j = i)) := by rw [b_xor, nw_sh hi hj]
/-! ===== lists of places ===== -/
theorem nw_rg (j k : Nat) : List.range' j (k + 1) = j :: List.range' (j + 1) k := rfl
theorem nw_rga (j a b : Nat) : List.range' j (a + b) = List.range' j a ++ List.range' (j + a) b := by rw [List.range'_append_1]
theorem nw_rgm {j k x : Nat} : x ∈ List.range' j k ↔ j ≤ x ∧ x < j + k := by
  rw [List.mem_range'_1]
