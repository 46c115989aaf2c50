/-! ===== every call of the script ===== -/
section NWCA
variable {N : nw_N} {c : Nat} {σ : jv_S} {L i : Nat} {xs : Nat → Int32}
theorem nw_a1 (hi : i + 5 ≤ L) (hL : L ≤ 2560) : jv_ck (nI i + (1 : Int32)) L = true := by rw [show (1 : Int32) = nI 1 from rfl, nI_add, nw_ck (by omega) (by omega)]
theorem nw_a2 (hi : i + 5 ≤ L) (hL : L ≤ 2560) : jv_ck (nI i + (2 : Int32)) L = true := by rw [show (2 : Int32) = nI 2 from rfl, nI_add, nw_ck (by omega) (by omega)]
theorem nw_a3 (hi : i + 5 ≤ L) (hL : L ≤ 2560) : jv_ck (nI i + (3 : Int32)) L = true := by rw [show (3 : Int32) = nI 3 from rfl, nI_add, nw_ck (by omega) (by omega)]
theorem nw_a4 (hi : i + 5 ≤ L) (hL : L ≤ 2560) : jv_ck (nI i + (4 : Int32)) L = true := by rw [show (4 : Int32) = nI 4 from rfl, nI_add, nw_ck (by omega) (by omega)]
theorem nw_c0 (h : nw_all N c σ) (hi : i + 5 ≤ L) (hL : L ≤ 2560) : ∃ τ, f_L_case0 L xs (nI i) σ = some τ ∧ nw_I (c + 1) τ := by
  obtain ⟨τ, h1, h2⟩ := nw_q0 h (xs (nI i + (1 : Int32)).toNatClampNeg)
  refine ⟨τ, Eq.trans ?_ h1, h2⟩
  unfold f_L_case0
  rw [if_pos (nw_a1 hi hL)]
  refine congrArg (jv_bd _) (funext fun q => ?_)
  rw [if_pos (nw_a1 hi hL)]
  rfl
theorem nw_c1 (h : nw_all N c σ) (hi : i + 5 ≤ L) (hL : L ≤ 2560) : ∃ τ, f_L_case1 L xs (nI i) σ = some τ ∧ nw_I (c + 1) τ := by
  obtain ⟨τ, h1, h2⟩ := nw_q1 h (xs (nI i + (1 : Int32)).toNatClampNeg) (xs (nI i + (2 : Int32)).toNatClampNeg) (xs (nI i + (3 : Int32)).toNatClampNeg)
  refine ⟨τ, Eq.trans ?_ h1, h2⟩
  unfold f_L_case1
  rw [if_pos (nw_a1 hi hL), if_pos (nw_a2 hi hL), if_pos (nw_a3 hi hL)]
  refine congrArg (jv_bd _) (funext fun q => ?_)
  rw [if_pos (nw_a1 hi hL), if_pos (nw_a2 hi hL), if_pos (nw_a3 hi hL)]
  rfl
theorem nw_c2 (h : nw_all N c σ) (hi : i + 5 ≤ L) (hL : L ≤ 2560) : ∃ τ, f_L_case2 L xs (nI i) σ = some τ ∧ nw_I (c + 1) τ := by
  obtain ⟨τ, h1, h2⟩ := nw_q2 h (xs (nI i + (1 : Int32)).toNatClampNeg) (xs (nI i + (2 : Int32)).toNatClampNeg)
  refine ⟨τ, Eq.trans ?_ h1, h2⟩
  unfold f_L_case2
  rw [if_pos (nw_a1 hi hL), if_pos (nw_a2 hi hL)]
  refine congrArg (jv_bd _) (funext fun q => ?_)
  rw [if_pos (nw_a1 hi hL), if_pos (nw_a2 hi hL)]
  rfl
theorem nw_c3 (h : nw_all N c σ) (hi : i + 5 ≤ L) (hL : L ≤ 2560) : ∃ τ, f_L_case3 L xs (nI i) σ = some τ ∧ nw_I (c + 1) τ := by
  obtain ⟨τ, h1, h2⟩ := nw_q3 h (xs (nI i + (1 : Int32)).toNatClampNeg)
  refine ⟨τ, Eq.trans ?_ h1, h2⟩
  unfold f_L_case3
  rw [if_pos (nw_a1 hi hL)]
  refine congrArg (jv_bd _) (funext fun q => ?_)
  rw [if_pos (nw_a1 hi hL)]
  rfl
theorem nw_c4 (h : nw_all N c σ) (hi : i + 5 ≤ L) (hL : L ≤ 2560) : ∃ τ, f_L_case4 L xs (nI i) σ = some τ ∧ nw_I (c + 1) τ := by
  obtain ⟨τ, h1, h2⟩ := nw_q4 h (xs (nI i + (1 : Int32)).toNatClampNeg)
  refine ⟨τ, Eq.trans ?_ h1, h2⟩
  unfold f_L_case4
  rw [if_pos (nw_a1 hi hL)]
  refine congrArg (jv_bd _) (funext fun q => ?_)
  rw [if_pos (nw_a1 hi hL)]
  rfl
theorem nw_c5 (h : nw_all N c σ) (hi : i + 5 ≤ L) (hL : L ≤ 2560) : ∃ τ, f_L_case5 L xs (nI i) σ = some τ ∧ nw_I (c + 1) τ := by
  obtain ⟨τ, h1, h2⟩ := nw_q5 h (xs (nI i + (1 : Int32)).toNatClampNeg) (xs (nI i + (2 : Int32)).toNatClampNeg)
  refine ⟨τ, Eq.trans ?_ h1, h2⟩
  unfold f_L_case5
  rw [if_pos (nw_a1 hi hL), if_pos (nw_a2 hi hL)]
  refine congrArg (jv_bd _) (funext fun q => ?_)
  rw [if_pos (nw_a1 hi hL), if_pos (nw_a2 hi hL)]
  rfl
theorem nw_c6 (h : nw_all N c σ) (hi : i + 5 ≤ L) (hL : L ≤ 2560) : ∃ τ, f_L_case6 L xs (nI i) σ = some τ ∧ nw_I (c + 1) τ := by
  unfold f_L_case6
  exact nw_q6 h
theorem nw_c7 (h : nw_all N c σ) (hi : i + 5 ≤ L) (hL : L ≤ 2560) : ∃ τ, f_L_case7 L xs (nI i) σ = some τ ∧ nw_I (c + 1) τ := by
  unfold f_L_case7
  exact nw_q7 h
theorem nw_c8 (h : nw_all N c σ) (hi : i + 5 ≤ L) (hL : L ≤ 2560) : ∃ τ, f_L_case8 L xs (nI i) σ = some τ ∧ nw_I (c + 1) τ := by
  unfold f_L_case8
  exact nw_q8 h
theorem nw_c9 (h : nw_all N c σ) (hi : i + 5 ≤ L) (hL : L ≤ 2560) : ∃ τ, f_L_case9 L xs (nI i) σ = some τ ∧ nw_I (c + 1) τ := by
  obtain ⟨τ, h1, h2⟩ := nw_q9 h (xs (nI i + (1 : Int32)).toNatClampNeg) (xs (nI i + (2 : Int32)).toNatClampNeg)
  refine ⟨τ, Eq.trans ?_ h1, h2⟩
  unfold f_L_case9
  rw [if_pos (nw_a1 hi hL), if_pos (nw_a2 hi hL)]
  refine congrArg (jv_bd _) (funext fun q => ?_)
  rw [if_pos (nw_a1 hi hL), if_pos (nw_a2 hi hL)]
  rfl
theorem nw_c10 (h : nw_all N c σ) (hc : c ≤ 600) (hi : i + 5 ≤ L) (hL : L ≤ 2560) : ∃ τ, f_L_case10 L xs (nI i) σ = some τ ∧ nw_I (c + 1) τ := by
  obtain ⟨τ, h1, h2⟩ := nw_q10 h hc (xs (nI i + (1 : Int32)).toNatClampNeg) (xs (nI i + (2 : Int32)).toNatClampNeg)
  refine ⟨τ, Eq.trans ?_ h1, h2⟩
  unfold f_L_case10
  rw [if_pos (nw_a1 hi hL), if_pos (nw_a2 hi hL)]
  refine congrArg (jv_bd _) (funext fun q => ?_)
  rw [if_pos (nw_a1 hi hL), if_pos (nw_a2 hi hL)]
  rfl
theorem nw_c11 (h : nw_all N c σ) (hc : c ≤ 600) (hi : i + 5 ≤ L) (hL : L ≤ 2560) : ∃ τ, f_L_case11 L xs (nI i) σ = some τ ∧ nw_I (c + 1) τ := by
  unfold f_L_case11
  exact nw_q11 h hc
theorem nw_c12 (h : nw_all N c σ) (hc : c ≤ 600) (hi : i + 5 ≤ L) (hL : L ≤ 2560) : ∃ τ, f_L_case12 L xs (nI i) σ = some τ ∧ nw_I (c + 1) τ := by
  unfold f_L_case12
  exact nw_q12 h hc
theorem nw_c13 (h : nw_all N c σ) (hc : c ≤ 600) (hi : i + 5 ≤ L) (hL : L ≤ 2560) : ∃ τ, f_L_case13 L xs (nI i) σ = some τ ∧ nw_I (c + 1) τ := by
  unfold f_L_case13
  exact nw_q13 h hc
theorem nw_c14 (h : nw_all N c σ) (hc : c ≤ 600) (hi : i + 5 ≤ L) (hL : L ≤ 2560) : ∃ τ, f_L_case14 L xs (nI i) σ = some τ ∧ nw_I (c + 1) τ := by
  obtain ⟨τ, h1, h2⟩ := nw_q14 h hc (xs (nI i + (1 : Int32)).toNatClampNeg)
  refine ⟨τ, Eq.trans ?_ h1, h2⟩
  unfold f_L_case14
  rw [if_pos (nw_a1 hi hL)]
  refine congrArg (jv_bd _) (funext fun q => ?_)
  rw [if_pos (nw_a1 hi hL)]
  rfl
theorem nw_c15 (h : nw_all N c σ) (hi : i + 5 ≤ L) (hL : L ≤ 2560) : ∃ τ, f_L_case15 L xs (nI i) σ = some τ ∧ nw_I (c + 1) τ := by
  obtain ⟨τ, h1, h2⟩ := nw_q15 h (xs (nI i + (1 : Int32)).toNatClampNeg) (xs (nI i + (2 : Int32)).toNatClampNeg) (xs (nI i + (3 : Int32)).toNatClampNeg)
  refine ⟨τ, Eq.trans ?_ h1, h2⟩
  unfold f_L_case15
  rw [if_pos (nw_a1 hi hL), if_pos (nw_a2 hi hL), if_pos (nw_a3 hi hL)]
  refine congrArg (jv_bd _) (funext fun q => ?_)
  rw [if_pos (nw_a1 hi hL), if_pos (nw_a2 hi hL), if_pos (nw_a3 hi hL)]
  rfl
theorem nw_c16 (h : nw_all N c σ) (hi : i + 5 ≤ L) (hL : L ≤ 2560) : ∃ τ, f_L_case16 L xs (nI i) σ = some τ ∧ nw_I (c + 1) τ := by
  obtain ⟨τ, h1, h2⟩ := nw_q16 h (xs (nI i + (1 : Int32)).toNatClampNeg) (xs (nI i + (2 : Int32)).toNatClampNeg)
  refine ⟨τ, Eq.trans ?_ h1, h2⟩
  unfold f_L_case16
  rw [if_pos (nw_a1 hi hL), if_pos (nw_a2 hi hL)]
  refine congrArg (jv_bd _) (funext fun q => ?_)
  rw [if_pos (nw_a1 hi hL), if_pos (nw_a2 hi hL)]
  rfl
theorem nw_c17 (h : nw_all N c σ) (hi : i + 5 ≤ L) (hL : L ≤ 2560) : ∃ τ, f_L_case17 L xs (nI i) σ = some τ ∧ nw_I (c + 1) τ := by
  unfold f_L_case17
  exact nw_q17 h
theorem nw_c18 (h : nw_all N c σ) (hi : i + 5 ≤ L) (hL : L ≤ 2560) : ∃ τ, f_L_case18 L xs (nI i) σ = some τ ∧ nw_I (c + 1) τ := by
  unfold f_L_case18
  exact nw_q18 h
theorem nw_c19 (h : nw_all N c σ) (hi : i + 5 ≤ L) (hL : L ≤ 2560) : ∃ τ, f_L_case19 L xs (nI i) σ = some τ ∧ nw_I (c + 1) τ := by
  unfold f_L_case19
  exact nw_q19 h
theorem nw_c20 (h : nw_all N c σ) (hi : i + 5 ≤ L) (hL : L ≤ 2560) : ∃ τ, f_L_case20 L xs (nI i) σ = some τ ∧ nw_I (c + 1) τ := by
  obtain ⟨τ, h1, h2⟩ := nw_q20 h (xs (nI i + (1 : Int32)).toNatClampNeg)
  refine ⟨τ, Eq.trans ?_ h1, h2⟩
  unfold f_L_case20
  rw [if_pos (nw_a1 hi hL)]
  refine congrArg (jv_bd _) (funext fun q => ?_)
  rw [if_pos (nw_a1 hi hL)]
  rfl
theorem nw_c21 (h : nw_all N c σ) (hi : i + 5 ≤ L) (hL : L ≤ 2560) : ∃ τ, f_L_case21 L xs (nI i) σ = some τ ∧ nw_I (c + 1) τ := by
  obtain ⟨τ, h1, h2⟩ := nw_q21 h (xs (nI i + (1 : Int32)).toNatClampNeg) (xs (nI i + (2 : Int32)).toNatClampNeg) (if xs (nI i + (3 : Int32)).toNatClampNeg = 0 then false else true)
  refine ⟨τ, Eq.trans ?_ h1, h2⟩
  unfold f_L_case21
  rw [if_pos (nw_a1 hi hL), if_pos (nw_a2 hi hL), if_pos (nw_a3 hi hL), nw_lt]
  refine congrArg (jv_bd _) (funext fun q => ?_)
  rw [if_pos (nw_a1 hi hL), if_pos (nw_a2 hi hL), if_pos (nw_a3 hi hL), nw_lt]
  rfl
theorem nw_c22 (h : nw_all N c σ) (hi : i + 5 ≤ L) (hL : L ≤ 2560) : ∃ τ, f_L_case22 L xs (nI i) σ = some τ ∧ nw_I (c + 1) τ := by
  obtain ⟨τ, h1, h2⟩ := nw_q22 h (xs (nI i + (1 : Int32)).toNatClampNeg) (xs (nI i + (2 : Int32)).toNatClampNeg) (xs (nI i + (3 : Int32)).toNatClampNeg) (if xs (nI i + (4 : Int32)).toNatClampNeg = 0 then false else true)
  refine ⟨τ, Eq.trans ?_ h1, h2⟩
  unfold f_L_case22
  rw [if_pos (nw_a1 hi hL), if_pos (nw_a2 hi hL), if_pos (nw_a3 hi hL), if_pos (nw_a4 hi hL), nw_lt]
  refine congrArg (jv_bd _) (funext fun q => ?_)
  rw [if_pos (nw_a1 hi hL), if_pos (nw_a2 hi hL), if_pos (nw_a3 hi hL), if_pos (nw_a4 hi hL), nw_lt]
  rfl
theorem nw_c23 (h : nw_all N c σ) (hi : i + 5 ≤ L) (hL : L ≤ 2560) : ∃ τ, f_L_case23 L xs (nI i) σ = some τ ∧ nw_I (c + 1) τ := by
  obtain ⟨τ, h1, h2⟩ := nw_q23 h (xs (nI i + (1 : Int32)).toNatClampNeg) (xs (nI i + (2 : Int32)).toNatClampNeg)
  refine ⟨τ, Eq.trans ?_ h1, h2⟩
  unfold f_L_case23
  rw [if_pos (nw_a1 hi hL), if_pos (nw_a2 hi hL)]
  refine congrArg (jv_bd _) (funext fun q => ?_)
  rw [if_pos (nw_a1 hi hL), if_pos (nw_a2 hi hL)]
  rfl
theorem nw_c24 (h : nw_all N c σ) (hi : i + 5 ≤ L) (hL : L ≤ 2560) : ∃ τ, f_L_case24 L xs (nI i) σ = some τ ∧ nw_I (c + 1) τ := by
  obtain ⟨τ, h1, h2⟩ := nw_q24 h (xs (nI i + (1 : Int32)).toNatClampNeg) (xs (nI i + (2 : Int32)).toNatClampNeg)
  refine ⟨τ, Eq.trans ?_ h1, h2⟩
  unfold f_L_case24
  rw [if_pos (nw_a1 hi hL), if_pos (nw_a2 hi hL)]
  refine congrArg (jv_bd _) (funext fun q => ?_)
  rw [if_pos (nw_a1 hi hL), if_pos (nw_a2 hi hL)]
  rfl
theorem nw_c25 (h : nw_all N c σ) (hi : i + 5 ≤ L) (hL : L ≤ 2560) : ∃ τ, f_L_case25 L xs (nI i) σ = some τ ∧ nw_I (c + 1) τ := by
  obtain ⟨τ, h1, h2⟩ := nw_q25 h (xs (nI i + (1 : Int32)).toNatClampNeg) (xs (nI i + (2 : Int32)).toNatClampNeg) (xs (nI i + (3 : Int32)).toNatClampNeg)
  refine ⟨τ, Eq.trans ?_ h1, h2⟩
  unfold f_L_case25
  rw [if_pos (nw_a1 hi hL), if_pos (nw_a2 hi hL), if_pos (nw_a3 hi hL)]
  refine congrArg (jv_bd _) (funext fun q => ?_)
  rw [if_pos (nw_a1 hi hL), if_pos (nw_a2 hi hL), if_pos (nw_a3 hi hL)]
  rfl
theorem nw_sw (h : nw_I c σ) (hc : c ≤ 600) (hi : i + 5 ≤ L) (hL : L ≤ 2560) : ∃ τ, f_L_sw L xs (nI i) σ = some τ ∧ nw_I (c + 1) τ := by
  obtain ⟨N, hN⟩ := h
  have h : nw_all N c σ := hN
  unfold f_L_sw
  generalize (xs (nI i).toNatClampNeg &&& (31 : Int32)) = w
  by_cases e0 : w = (0 : Int32)
  · rw [if_pos e0]; exact nw_c0 h hi hL
  rw [if_neg e0]
  by_cases e1 : w = (1 : Int32)
  · rw [if_pos e1]; exact nw_c1 h hi hL
  rw [if_neg e1]
  by_cases e2 : w = (2 : Int32)
  · rw [if_pos e2]; exact nw_c2 h hi hL
  rw [if_neg e2]
  by_cases e3 : w = (3 : Int32)
  · rw [if_pos e3]; exact nw_c3 h hi hL
  rw [if_neg e3]
  by_cases e4 : w = (4 : Int32)
  · rw [if_pos e4]; exact nw_c4 h hi hL
  rw [if_neg e4]
  by_cases e5 : w = (5 : Int32)
  · rw [if_pos e5]; exact nw_c5 h hi hL
  rw [if_neg e5]
  by_cases e6 : w = (6 : Int32)
  · rw [if_pos e6]; exact nw_c6 h hi hL
  rw [if_neg e6]
  by_cases e7 : w = (7 : Int32)
  · rw [if_pos e7]; exact nw_c7 h hi hL
  rw [if_neg e7]
  by_cases e8 : w = (8 : Int32)
  · rw [if_pos e8]; exact nw_c8 h hi hL
  rw [if_neg e8]
  by_cases e9 : w = (9 : Int32)
  · rw [if_pos e9]; exact nw_c9 h hi hL
  rw [if_neg e9]
  by_cases e10 : w = (10 : Int32)
  · rw [if_pos e10]; exact nw_c10 h hc hi hL
  rw [if_neg e10]
  by_cases e11 : w = (11 : Int32)
  · rw [if_pos e11]; exact nw_c11 h hc hi hL
  rw [if_neg e11]
  by_cases e12 : w = (12 : Int32)
  · rw [if_pos e12]; exact nw_c12 h hc hi hL
  rw [if_neg e12]
  by_cases e13 : w = (13 : Int32)
  · rw [if_pos e13]; exact nw_c13 h hc hi hL
  rw [if_neg e13]
  by_cases e14 : w = (14 : Int32)
  · rw [if_pos e14]; exact nw_c14 h hc hi hL
  rw [if_neg e14]
  by_cases e15 : w = (15 : Int32)
  · rw [if_pos e15]; exact nw_c15 h hi hL
  rw [if_neg e15]
  by_cases e16 : w = (16 : Int32)
  · rw [if_pos e16]; exact nw_c16 h hi hL
  rw [if_neg e16]
  by_cases e17 : w = (17 : Int32)
  · rw [if_pos e17]; exact nw_c17 h hi hL
  rw [if_neg e17]
  by_cases e18 : w = (18 : Int32)
  · rw [if_pos e18]; exact nw_c18 h hi hL
  rw [if_neg e18]
  by_cases e19 : w = (19 : Int32)
  · rw [if_pos e19]; exact nw_c19 h hi hL
  rw [if_neg e19]
  by_cases e20 : w = (20 : Int32)
  · rw [if_pos e20]; exact nw_c20 h hi hL
  rw [if_neg e20]
  by_cases e21 : w = (21 : Int32)
  · rw [if_pos e21]; exact nw_c21 h hi hL
  rw [if_neg e21]
  by_cases e22 : w = (22 : Int32)
  · rw [if_pos e22]; exact nw_c22 h hi hL
  rw [if_neg e22]
  by_cases e23 : w = (23 : Int32)
  · rw [if_pos e23]; exact nw_c23 h hi hL
  rw [if_neg e23]
  by_cases e24 : w = (24 : Int32)
  · rw [if_pos e24]; exact nw_c24 h hi hL
  rw [if_neg e24]
  by_cases e25 : w = (25 : Int32)
  · rw [if_pos e25]; exact nw_c25 h hi hL
  rw [if_neg e25]
  exact ⟨σ, rfl, nw_scr h (by omega) nw_f.rfl⟩
theorem nw_ex (hL : L ≤ 2560) (hi : i ≤ L) : (nI L - (5 : Int32)) < nI i ↔ L < i + 5 := by
  rw [fa_lt, show (5 : Int32) = nI 5 from rfl, Int32.toInt_sub, nI_toInt (by omega), nI_toInt (by omega), nI_toInt (by omega), Int.bmod_eq_of_le (by omega) (by omega)]
  omega
theorem nw_lp (hL : L ≤ 2560) : ∀ (k i c fuel : Nat) (σ : jv_S), L < i + 5 + 5 * k → k < fuel → c + k ≤ 600 → i ≤ L → nw_I c σ → ∃ τ, f_L_lp L xs fuel (nI i) σ = some τ := by
  intro k
  induction k with
  | zero =>
    intro i c fuel σ hk hf hc hi h
    obtain ⟨f, rfl⟩ := nw_f0 hf
    exact ⟨σ, by rw [f_L_lp, if_pos ((nw_ex hL hi).mpr (by omega))]⟩
  | succ k ih =>
    intro i c fuel σ hk hf hc hi h
    obtain ⟨f, rfl, hg⟩ := nw_fe hf
    by_cases e : L < i + 5
    · exact ⟨σ, by rw [f_L_lp, if_pos ((nw_ex hL hi).mpr e)]⟩
    · obtain ⟨τ, h1, h2⟩ := nw_sw (xs := xs) (i := i) (L := L) h (by omega) (by omega) hL
      obtain ⟨ρ, h3⟩ := ih (i + 5) (c + 1) f τ (by omega) hg (by omega) (by omega) h2
      exact ⟨ρ, by rw [f_L_lp, if_neg (fun x => e ((nw_ex hL hi).mp x)), nw_ck (by omega) (by omega), if_pos rfl, h1, nw_bd, show (5 : Int32) = nI 5 from rfl, nI_add, h3]⟩
end NWCA
def nw_N0 : nw_N := ((2, 0), ((fun _ => 0), (fun _ => 0), (fun _ => 0)), (fun _ => false), (fun _ => false), (fun _ _ => false))
theorem nw_z0 : nw_I 0 (jv_si (jv_si jv_z 1 6 (2 : Int32)) 35 1 (2 : Int32)) := by
  refine ⟨nw_N0, ⟨⟨Nat.le_refl _, by decide, Nat.zero_le _, fun e he => absurd he (Nat.not_lt_zero _), fun _ _ => rfl⟩, ⟨?_, ?_, fun e he => absurd he (Nat.not_lt_zero _), fun e he => ?_, fun v hv => ?_, fun e he f hf => ?_⟩, ⟨fun v hv => ?_, fun v hv i x hx => ?_⟩, ⟨?_, ?_, fun e he => absurd he (Nat.not_lt_zero _), fun v hv => ?_, fun e he f hf => ?_⟩, fun v hv => ?_⟩, Or.inl ⟨?_, ?_⟩, Or.inl ⟨?_, ?_⟩⟩
  · rw [nw_gn (by decide), nw_gs]; rfl
  · rw [nw_gn (by decide), nw_gj (by decide)]; rfl
  · rw [nw_gn (by decide), nw_gj (by decide)]; exact b_0 e
  · rw [nw_gn (by decide), nw_gj (by decide)]; exact b_0 v
  · rw [nw_gn (by decide), nw_gn (by decide)]; exact b_0 f
  · rw [nw_gn (by decide), nw_gn (by decide)]; rfl
  · exact absurd hx (by show ¬ ([] : List Nat)[i]? = some x; simp)
  · rw [nw_gs]; rfl
  · rw [nw_gj (by decide), nw_gn (by decide)]; rfl
  · rw [nw_gn (by decide), nw_gn (by decide)]; rfl
  · rw [nw_gn (by decide), nw_gn (by decide)]; rfl
  · rw [nw_gn (by decide), nw_gn (by decide)]; rfl
  · rw [nw_gn (by decide), nw_gn (by decide)]; rfl
  · rw [nw_gj (by decide), nw_gn (by decide)]; rfl
  · rw [nw_gn (by decide), nw_gn (by decide)]; rfl
  · rw [nw_gj (by decide), nw_gn (by decide)]; rfl
theorem nw_ok {N : Nat} {xs : Nat → Int32} (hN : N ≤ 2560) : ∃ τ, f_L_lp N xs jv_lf 0 (jv_si (jv_si jv_z 1 6 (2 : Int32)) 35 1 (2 : Int32)) = some τ := nw_lp hN 512 0 0 jv_lf _ (by omega) (by rw [jv_lf_is]; omega) (by omega) (Nat.zero_le _) nw_z0
