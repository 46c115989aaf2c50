noncomputable def f_X4_countFrom_lp26 (rec : jv_S → Int32 → Int32 → Int32 → Int32 → Option (Int32)) (a1 : Int32) (a2 : Int32) (a3 : Int32) (a4 : Int32) : Nat → Int32 → Int32 → jv_S → Option (Int32 × Int32)
  | 0, _, _, _ => none
  | n + 1, v6, v7, σ => if (f_X3_outEnd σ a1) ≤ v7 then (some (v6, v7)) else (jv_bd (if (f_X7_hasBit σ a2 (f_X3_headOf σ (f_X3_outEdge σ v7))) = true then (some v6) else (if (f_X2_ofNode 16 σ (f_X3_headOf σ (f_X3_outEdge σ v7))) ≤ (a3 - (f_X3_lengthOf σ (f_X3_outEdge σ v7))) then (jv_bd (if (f_X3_headOf σ (f_X3_outEdge σ v7)) = (σ.1 14 2) then (some (1 : Int32)) else (jv_bd (rec σ (f_X3_headOf σ (f_X3_outEdge σ v7)) (a2 ||| ((1 : Int32) <<< ((f_X3_headOf σ (f_X3_outEdge σ v7)) &&& 31))) (a3 - (f_X3_lengthOf σ (f_X3_outEdge σ v7))) (a4 + (1 : Int32))) (fun q8 => some q8))) (fun q7 => some (v6 + q7))) else (some v6))) (fun q4 => f_X4_countFrom_lp26 rec a1 a2 a3 a4 n q4 (v7 + (1 : Int32)) σ))
noncomputable def f_X4_countFrom : Nat → jv_S → Int32 → Int32 → Int32 → Int32 → Option (Int32)
  | 0, _, _, _, _, _ => none
  | n + 1, σ, p2, p3, p4, p5 => (fun (rec : jv_S → Int32 → Int32 → Int32 → Int32 → Option (Int32)) => if p5 < (9 : Int32) then (jv_bd (f_X4_countFrom_lp26 rec p2 p3 p4 p5 jv_fuel (0 : Int32) (f_X3_outStart σ p2) σ) (fun q9 => some q9.1)) else (some (0 : Int32))) (f_X4_countFrom n)
set_option maxRecDepth 100000 in
set_option maxHeartbeats 4000000 in
theorem lp_X4_countFrom_26 {σ : jv_S} {m : Nat} {rec : jv_S → Int32 → Int32 → Int32 → Int32 → Option (Int32)} {a1 : Int32} {a2 : Int32} {a3 : Int32} {a4 : Int32} {E : jv_E} (hE : jv_Cx E RX4 cX4_countFrom 11 (3 + m + 1)) (hrec : ∀ {σ : jv_S} {p2 : Int32} {p3 : Int32} {p4 : Int32} {p5 : Int32} {q : Int32}, rec σ p2 p3 p4 p5 = some q → jv_Cn (jv_g E) (jv_l E) (3 + m) M_X4_countFrom [.ref 14, .int p2, .int p3, .int p4, .int p5] σ (some (.int q)) σ) : ∀ (n : Nat) (v6 : Int32) (v7 : Int32)  (q : Int32 × Int32), f_X4_countFrom_lp26 rec a1 a2 a3 a4 n v6 v7 σ = some q → (jv_V E 134 [none, none, none, none, none, none, some (.int q.1), none, none, none, none] [] σ) → jv_V E 26 [some (.ref 14), some (.int a1), some (.int a2), some (.int a3), some (.int a4), some (.ref 1), some (.int v6), some (.int v7), none, none, none] [] σ := by
  intro n
  induction n with
  | zero =>
    intro v6 v7 q h
    rw [f_X4_countFrom_lp26] at h
    cases h
  | succ n ih =>
    intro v6 v7 q h hk
    rw [f_X4_countFrom_lp26] at h
    refine jv_iload (x := v7) (pc' := 28) hE dX4_countFrom_26 rfl rfl ?_
    refine jv_aload (x := 1) (pc' := 30) hE dX4_countFrom_28 rfl rfl ?_
    refine jv_iload_n (x := a1) (pc' := 31) hE dX4_countFrom_30 rfl 1 rfl rfl ?_
    refine jv_callV (pc' := 34) (o := some (.int (f_X3_outEnd σ a1))) (σ' := σ) hE dX4_countFrom_31 rfl lV_X4_42 (ok_X3_outEnd rfl) rfl rfl rfl (by omega) rfl (Nat.le_of_ble_eq_true rfl) ?_
    show jv_V E 34 [some (.ref 14), some (.int a1), some (.int a2), some (.int a3), some (.int a4), some (.ref 1), some (.int v6), some (.int v7), none, none, none] [.int (f_X3_outEnd σ a1), .int v7] σ
    refine jv_icmp_ge (x := v7) (y := (f_X3_outEnd σ a1)) (tgt := 134) (pc' := 37) hE dX4_countFrom_34 (by decide) rfl (fun c2 => ?_) (fun c2 => ?_)
    · rw [if_pos c2] at h
      cases h
      exact jv_forget [false, false, false, false, false, false, true, false, true, true, true] hk
    · rw [if_neg c2] at h
      refine jv_aload (x := 1) (pc' := 39) hE dX4_countFrom_37 rfl rfl ?_
      refine jv_iload (x := v7) (pc' := 41) hE dX4_countFrom_39 rfl rfl ?_
      refine jv_callV (pc' := 44) (o := some (.int (f_X3_outEdge σ v7))) (σ' := σ) hE dX4_countFrom_41 rfl lV_X4_45 (ok_X3_outEdge rfl) rfl rfl rfl (by omega) rfl (Nat.le_of_ble_eq_true rfl) ?_
      show jv_V E 44 [some (.ref 14), some (.int a1), some (.int a2), some (.int a3), some (.int a4), some (.ref 1), some (.int v6), some (.int v7), none, none, none] [.int (f_X3_outEdge σ v7)] σ
      refine jv_istore (x := (f_X3_outEdge σ v7)) (L' := [some (.ref 14), some (.int a1), some (.int a2), some (.int a3), some (.int a4), some (.ref 1), some (.int v6), some (.int v7), some (.int (f_X3_outEdge σ v7)), none, none]) (pc' := 46) hE dX4_countFrom_44 rfl (by decide) rfl rfl ?_
      refine jv_aload (x := 1) (pc' := 48) hE dX4_countFrom_46 rfl rfl ?_
      refine jv_iload (x := (f_X3_outEdge σ v7)) (pc' := 50) hE dX4_countFrom_48 rfl rfl ?_
      refine jv_callV (pc' := 53) (o := some (.int (f_X3_headOf σ (f_X3_outEdge σ v7)))) (σ' := σ) hE dX4_countFrom_50 rfl lV_X4_48 (ok_X3_headOf rfl) rfl rfl rfl (by omega) rfl (Nat.le_of_ble_eq_true rfl) ?_
      show jv_V E 53 [some (.ref 14), some (.int a1), some (.int a2), some (.int a3), some (.int a4), some (.ref 1), some (.int v6), some (.int v7), some (.int (f_X3_outEdge σ v7)), none, none] [.int (f_X3_headOf σ (f_X3_outEdge σ v7))] σ
      refine jv_istore (x := (f_X3_headOf σ (f_X3_outEdge σ v7))) (L' := [some (.ref 14), some (.int a1), some (.int a2), some (.int a3), some (.int a4), some (.ref 1), some (.int v6), some (.int v7), some (.int (f_X3_outEdge σ v7)), some (.int (f_X3_headOf σ (f_X3_outEdge σ v7))), none]) (pc' := 55) hE dX4_countFrom_53 rfl (by decide) rfl rfl ?_
      refine jv_iload_n (x := a3) (pc' := 56) hE dX4_countFrom_55 rfl 3 rfl rfl ?_
      refine jv_aload (x := 1) (pc' := 58) hE dX4_countFrom_56 rfl rfl ?_
      refine jv_iload (x := (f_X3_outEdge σ v7)) (pc' := 60) hE dX4_countFrom_58 rfl rfl ?_
      refine jv_callV (pc' := 63) (o := some (.int (f_X3_lengthOf σ (f_X3_outEdge σ v7)))) (σ' := σ) hE dX4_countFrom_60 rfl lV_X4_51 (ok_X3_lengthOf rfl) rfl rfl rfl (by omega) rfl (Nat.le_of_ble_eq_true rfl) ?_
      show jv_V E 63 [some (.ref 14), some (.int a1), some (.int a2), some (.int a3), some (.int a4), some (.ref 1), some (.int v6), some (.int v7), some (.int (f_X3_outEdge σ v7)), some (.int (f_X3_headOf σ (f_X3_outEdge σ v7))), none] [.int (f_X3_lengthOf σ (f_X3_outEdge σ v7)), .int a3] σ
      refine jv_isub (x := a3) (y := (f_X3_lengthOf σ (f_X3_outEdge σ v7))) (pc' := 64) hE dX4_countFrom_63 rfl ?_
      refine jv_istore (x := (a3 - (f_X3_lengthOf σ (f_X3_outEdge σ v7)))) (L' := [some (.ref 14), some (.int a1), some (.int a2), some (.int a3), some (.int a4), some (.ref 1), some (.int v6), some (.int v7), some (.int (f_X3_outEdge σ v7)), some (.int (f_X3_headOf σ (f_X3_outEdge σ v7))), some (.int (a3 - (f_X3_lengthOf σ (f_X3_outEdge σ v7))))]) (pc' := 66) hE dX4_countFrom_64 rfl (by decide) rfl rfl ?_
      refine jv_iload_n (x := a2) (pc' := 67) hE dX4_countFrom_66 rfl 2 rfl rfl ?_
      refine jv_iload (x := (f_X3_headOf σ (f_X3_outEdge σ v7))) (pc' := 69) hE dX4_countFrom_67 rfl rfl ?_
      refine jv_callN (pc' := 72) (o := some (.int (jv_b (f_X7_hasBit σ a2 (f_X3_headOf σ (f_X3_outEdge σ v7)))))) (σ' := σ) hE dX4_countFrom_69 rfl lN_X4_54 (ok_X7_hasBit rfl) rfl (by omega) rfl (Nat.le_of_ble_eq_true rfl) ?_
      show jv_V E 72 [some (.ref 14), some (.int a1), some (.int a2), some (.int a3), some (.int a4), some (.ref 1), some (.int v6), some (.int v7), some (.int (f_X3_outEdge σ v7)), some (.int (f_X3_headOf σ (f_X3_outEdge σ v7))), some (.int (a3 - (f_X3_lengthOf σ (f_X3_outEdge σ v7))))] [.int (jv_b (f_X7_hasBit σ a2 (f_X3_headOf σ (f_X3_outEdge σ v7))))] σ
      obtain ⟨q4, hq4, h⟩ := jv_bd_some h
      have kq4 : jv_V E 128 [some (.ref 14), some (.int a1), some (.int a2), some (.int a3), some (.int a4), some (.ref 1), some (.int q4), some (.int v7), none, none, none] [] σ := by
        refine jv_iinc (x := v7) (v := (v7 + (1 : Int32))) (L' := [some (.ref 14), some (.int a1), some (.int a2), some (.int a3), some (.int a4), some (.ref 1), some (.int q4), some (.int (v7 + (1 : Int32))), none, none, none]) (pc' := 131) hE dX4_countFrom_128 rfl rfl rfl (by decide) rfl rfl ?_
        refine jv_goto (tgt := 26) hE dX4_countFrom_131 (by decide) ?_
        exact jv_forget [true, true, true, true, true, true, true, true, true, true, true] (ih q4 (v7 + (1 : Int32)) _ h hk)
      refine jv_if_ne (x := (jv_b (f_X7_hasBit σ a2 (f_X3_headOf σ (f_X3_outEdge σ v7))))) (tgt := 128) (pc' := 75) hE dX4_countFrom_72 (by decide) rfl (fun c3 => ?_) (fun c3 => ?_)
      · have c3 := jv_b1 c3
        rw [if_pos c3] at hq4
        cases hq4
        exact jv_forget [true, true, true, true, true, true, true, true, false, false, false] kq4
      · have c3 := jv_b0 c3
        rw [if_neg c3] at hq4
        refine jv_aload_n (x := 14) (pc' := 76) hE dX4_countFrom_75 rfl 0 rfl rfl ?_
        refine jv_get (v := .ref 15) (pc' := 79) hE dX4_countFrom_76 rfl lF_X4_20 rfl rfl rfl ?_
        refine jv_iload (x := (f_X3_headOf σ (f_X3_outEdge σ v7))) (pc' := 81) hE dX4_countFrom_79 rfl rfl ?_
        refine jv_callV (pc' := 84) (o := some (.int (f_X2_ofNode 16 σ (f_X3_headOf σ (f_X3_outEdge σ v7))))) (σ' := σ) hE dX4_countFrom_81 rfl lV_X4_58 (ok_X2_ofNode_15 rfl) rfl rfl rfl (by omega) rfl (Nat.le_of_ble_eq_true rfl) ?_
        show jv_V E 84 [some (.ref 14), some (.int a1), some (.int a2), some (.int a3), some (.int a4), some (.ref 1), some (.int v6), some (.int v7), some (.int (f_X3_outEdge σ v7)), some (.int (f_X3_headOf σ (f_X3_outEdge σ v7))), some (.int (a3 - (f_X3_lengthOf σ (f_X3_outEdge σ v7))))] [.int (f_X2_ofNode 16 σ (f_X3_headOf σ (f_X3_outEdge σ v7)))] σ
        refine jv_iload (x := (a3 - (f_X3_lengthOf σ (f_X3_outEdge σ v7)))) (pc' := 86) hE dX4_countFrom_84 rfl rfl ?_
        refine jv_icmp_le (x := (f_X2_ofNode 16 σ (f_X3_headOf σ (f_X3_outEdge σ v7)))) (y := (a3 - (f_X3_lengthOf σ (f_X3_outEdge σ v7)))) (tgt := 92) (pc' := 89) hE dX4_countFrom_86 (by decide) rfl (fun c5 => ?_) (fun c5 => ?_)
        · rw [if_pos c5] at hq4
          refine jv_iload (x := v6) (pc' := 94) hE dX4_countFrom_92 rfl rfl ?_
          refine jv_iload (x := (f_X3_headOf σ (f_X3_outEdge σ v7))) (pc' := 96) hE dX4_countFrom_94 rfl rfl ?_
          refine jv_aload_n (x := 14) (pc' := 97) hE dX4_countFrom_96 rfl 0 rfl rfl ?_
          refine jv_get (v := .int (σ.1 14 2)) (pc' := 100) hE dX4_countFrom_97 rfl lF_X4_24 rfl rfl rfl ?_
          obtain ⟨q7, hq7, hq4⟩ := jv_bd_some hq4
          have kq7 : jv_V E 125 [some (.ref 14), some (.int a1), some (.int a2), some (.int a3), some (.int a4), some (.ref 1), none, some (.int v7), none, none, none] [.int q7, .int v6] σ := by
            refine jv_iadd (x := v6) (y := q7) (pc' := 126) hE dX4_countFrom_125 rfl ?_
            refine jv_istore (x := (v6 + q7)) (L' := [some (.ref 14), some (.int a1), some (.int a2), some (.int a3), some (.int a4), some (.ref 1), some (.int (v6 + q7)), some (.int v7), none, none, none]) (pc' := 128) hE dX4_countFrom_126 rfl (by decide) rfl rfl ?_
            cases hq4
            exact jv_forget [true, true, true, true, true, true, true, true, true, true, true] kq4
          refine jv_icmp_ne (x := (f_X3_headOf σ (f_X3_outEdge σ v7))) (y := (σ.1 14 2)) (tgt := 107) (pc' := 103) hE dX4_countFrom_100 (by decide) rfl (fun c6 => ?_) (fun c6 => ?_)
          · rw [if_neg c6] at hq7
            refine jv_aload_n (x := 14) (pc' := 108) hE dX4_countFrom_107 rfl 0 rfl rfl ?_
            refine jv_iload (x := (f_X3_headOf σ (f_X3_outEdge σ v7))) (pc' := 110) hE dX4_countFrom_108 rfl rfl ?_
            refine jv_iload_n (x := a2) (pc' := 111) hE dX4_countFrom_110 rfl 2 rfl rfl ?_
            refine jv_iconst (v := (1 : Int32)) (pc' := 112) hE dX4_countFrom_111 rfl (by decide) ?_
            refine jv_iload (x := (f_X3_headOf σ (f_X3_outEdge σ v7))) (pc' := 114) hE dX4_countFrom_112 rfl rfl ?_
            refine jv_ishl (x := (1 : Int32)) (y := (f_X3_headOf σ (f_X3_outEdge σ v7))) (pc' := 115) hE dX4_countFrom_114 rfl ?_
            refine jv_ior (x := a2) (y := ((1 : Int32) <<< ((f_X3_headOf σ (f_X3_outEdge σ v7)) &&& 31))) (pc' := 116) hE dX4_countFrom_115 rfl ?_
            refine jv_iload (x := (a3 - (f_X3_lengthOf σ (f_X3_outEdge σ v7)))) (pc' := 118) hE dX4_countFrom_116 rfl rfl ?_
            refine jv_iload (x := a4) (pc' := 120) hE dX4_countFrom_118 rfl rfl ?_
            refine jv_iconst (v := (1 : Int32)) (pc' := 121) hE dX4_countFrom_120 rfl (by decide) ?_
            refine jv_iadd (x := a4) (y := (1 : Int32)) (pc' := 122) hE dX4_countFrom_121 rfl ?_
            obtain ⟨q8, hq8, hq7⟩ := jv_bd_some hq7
            refine jv_callS (pc' := 125) (o := some (.int q8)) (σ' := σ) hE dX4_countFrom_122 rfl lS_X4_32 (hrec hq8) rfl (by omega) rfl (Nat.le_of_ble_eq_true rfl) ?_
            show jv_V E 125 [some (.ref 14), some (.int a1), some (.int a2), some (.int a3), some (.int a4), some (.ref 1), some (.int v6), some (.int v7), some (.int (f_X3_outEdge σ v7)), some (.int (f_X3_headOf σ (f_X3_outEdge σ v7))), some (.int (a3 - (f_X3_lengthOf σ (f_X3_outEdge σ v7))))] [.int q8, .int v6] σ
            cases hq7
            exact jv_forget [true, true, true, true, true, true, false, true, false, false, false] kq7
          · rw [if_pos c6] at hq7
            refine jv_iconst (v := (1 : Int32)) (pc' := 104) hE dX4_countFrom_103 rfl (by decide) ?_
            refine jv_goto (tgt := 125) hE dX4_countFrom_104 (by decide) ?_
            cases hq7
            exact jv_forget [true, true, true, true, true, true, false, true, false, false, false] kq7
        · rw [if_neg c5] at hq4
          refine jv_goto (tgt := 128) hE dX4_countFrom_89 (by decide) ?_
          cases hq4
          exact jv_forget [true, true, true, true, true, true, true, true, false, false, false] kq4
set_option maxRecDepth 100000 in
set_option maxHeartbeats 4000000 in
theorem ok_X4_countFrom_n {G : jv_G} {l : Launch} : ∀ (m : Nat) {σ : jv_S} {p2 : Int32} {p3 : Int32} {p4 : Int32} {p5 : Int32} {r : Int32}, f_X4_countFrom m σ p2 p3 p4 p5 = some r → jv_Cn G l (3 + m) M_X4_countFrom [.ref 14, .int p2, .int p3, .int p4, .int p5] σ (some (.int r)) σ := by
  intro m
  induction m with
  | zero =>
    intro σ p2 p3 p4 p5 r h
    rw [f_X4_countFrom] at h
    cases h
  | succ m ih =>
    intro σ p2 p3 p4 p5 r h
    rw [f_X4_countFrom] at h
    refine jv_of (L0 := [some (.ref 14), some (.int p2), some (.int p3), some (.int p4), some (.int p5), none, none, none, none, none, none]) (by decide +kernel) (Nat.le_of_ble_eq_true rfl) rfl (jv_okI _) (fun E e1 e2 hE hret => ?_)
    subst e1; subst e2
    generalize f_X4_countFrom m = rec at ih h
    have hrec := @ih
    dsimp only at h
    refine jv_iload (x := p5) (pc' := 2) hE dX4_countFrom_0 rfl rfl ?_
    refine jv_bipush (v := (9 : Int32)) (pc' := 4) hE dX4_countFrom_2 rfl (by decide) ?_
    refine jv_icmp_lt (x := p5) (y := (9 : Int32)) (tgt := 9) (pc' := 7) hE dX4_countFrom_4 (by decide) rfl (fun c1 => ?_) (fun c1 => ?_)
    · rw [if_pos c1] at h
      refine jv_aload_n (x := 14) (pc' := 10) hE dX4_countFrom_9 rfl 0 rfl rfl ?_
      refine jv_get (v := .ref 1) (pc' := 13) hE dX4_countFrom_10 rfl lF_X4_9 rfl rfl rfl ?_
      refine jv_astore (x := 1) (L' := [some (.ref 14), some (.int p2), some (.int p3), some (.int p4), some (.int p5), some (.ref 1), none, none, none, none, none]) (pc' := 15) hE dX4_countFrom_13 rfl (by decide) rfl rfl ?_
      refine jv_iconst (v := (0 : Int32)) (pc' := 16) hE dX4_countFrom_15 rfl (by decide) ?_
      refine jv_istore (x := (0 : Int32)) (L' := [some (.ref 14), some (.int p2), some (.int p3), some (.int p4), some (.int p5), some (.ref 1), some (.int (0 : Int32)), none, none, none, none]) (pc' := 18) hE dX4_countFrom_16 rfl (by decide) rfl rfl ?_
      refine jv_aload (x := 1) (pc' := 20) hE dX4_countFrom_18 rfl rfl ?_
      refine jv_iload_n (x := p2) (pc' := 21) hE dX4_countFrom_20 rfl 1 rfl rfl ?_
      refine jv_callV (pc' := 24) (o := some (.int (f_X3_outStart σ p2))) (σ' := σ) hE dX4_countFrom_21 rfl lV_X4_36 (ok_X3_outStart rfl) rfl rfl rfl (by omega) rfl (Nat.le_of_ble_eq_true rfl) ?_
      show jv_V E 24 [some (.ref 14), some (.int p2), some (.int p3), some (.int p4), some (.int p5), some (.ref 1), some (.int (0 : Int32)), none, none, none, none] [.int (f_X3_outStart σ p2)] σ
      refine jv_istore (x := (f_X3_outStart σ p2)) (L' := [some (.ref 14), some (.int p2), some (.int p3), some (.int p4), some (.int p5), some (.ref 1), some (.int (0 : Int32)), some (.int (f_X3_outStart σ p2)), none, none, none]) (pc' := 26) hE dX4_countFrom_24 rfl (by decide) rfl rfl ?_
      obtain ⟨q9, hq9, h⟩ := jv_bd_some h
      refine jv_forget [true, true, true, true, true, true, true, true, true, true, true] (lp_X4_countFrom_26 hE hrec jv_fuel (0 : Int32) (f_X3_outStart σ p2) _ hq9 ?_)
      refine jv_iload (x := q9.1) (pc' := 136) hE dX4_countFrom_134 rfl rfl ?_
      cases h
      exact hret _ _ dX4_countFrom_136
    · rw [if_neg c1] at h
      refine jv_iconst (v := (0 : Int32)) (pc' := 8) hE dX4_countFrom_7 rfl (by decide) ?_
      cases h
      exact hret _ _ dX4_countFrom_8
theorem ok_X4_countFrom {G : jv_G} {l : Launch} {σ : jv_S} {p2 : Int32} {p3 : Int32} {p4 : Int32} {p5 : Int32} {r : Int32} (h : f_X4_countFrom 12 σ p2 p3 p4 p5 = some r) : jv_Cn G l 15 M_X4_countFrom [.ref 14, .int p2, .int p3, .int p4, .int p5] σ (some (.int r)) σ := ok_X4_countFrom_n 12 h
noncomputable def f_X4_upTo (σ : jv_S) (p1 : Int32) (p2 : Int32) (p3 : Int32) : Option (Int32 × jv_S) := jv_bd (f_X2_measureTo 16 (jv_si σ 14 2 p2) p2) (fun q1 => jv_bd (f_X4_countFrom 12 q1 p1 ((1 : Int32) <<< (p1 &&& 31)) p3 (0 : Int32)) (fun q2 => some (q2, q1)))
set_option maxRecDepth 100000 in
set_option maxHeartbeats 4000000 in
theorem ok_X4_upTo {G : jv_G} {l : Launch} {σ : jv_S} {p1 : Int32} {p2 : Int32} {p3 : Int32} {r : Int32 × jv_S} (h : f_X4_upTo σ p1 p2 p3 = some r) : jv_Cn G l 16 M_X4_upTo [.ref 14, .int p1, .int p2, .int p3] σ (some (.int r.1)) r.2 := by
  refine jv_of (L0 := [some (.ref 14), some (.int p1), some (.int p2), some (.int p3)]) (by decide +kernel) (Nat.le_of_ble_eq_true rfl) rfl (jv_okI _) (fun E e1 e2 hE hret => ?_)
  unfold f_X4_upTo at h
  refine jv_aload_n (x := 14) (pc' := 1) hE dX4_upTo_0 rfl 0 rfl rfl ?_
  refine jv_iload_n (x := p2) (pc' := 2) hE dX4_upTo_1 rfl 2 rfl rfl ?_
  refine jv_puti (x := p2) (pc' := 5) hE dX4_upTo_2 rfl lP_X4_24 rfl rfl rfl rfl ?_
  refine jv_aload_n (x := 14) (pc' := 6) hE dX4_upTo_5 rfl 0 rfl rfl ?_
  refine jv_get (v := .ref 15) (pc' := 9) hE dX4_upTo_6 rfl lF_X4_20 rfl rfl rfl ?_
  refine jv_iload_n (x := p2) (pc' := 10) hE dX4_upTo_9 rfl 2 rfl rfl ?_
  obtain ⟨q1, hq1, h⟩ := jv_bd_some h
  refine jv_callV (pc' := 13) (o := none) (σ' := q1) hE dX4_upTo_10 rfl lV_X4_28 (ok_X2_measureTo_15 hq1) rfl rfl rfl (by decide) rfl (Nat.le_of_ble_eq_true rfl) ?_
  show jv_V E 13 [some (.ref 14), some (.int p1), some (.int p2), some (.int p3)] [] q1
  refine jv_aload_n (x := 14) (pc' := 14) hE dX4_upTo_13 rfl 0 rfl rfl ?_
  refine jv_iload_n (x := p1) (pc' := 15) hE dX4_upTo_14 rfl 1 rfl rfl ?_
  refine jv_iconst (v := (1 : Int32)) (pc' := 16) hE dX4_upTo_15 rfl (by decide) ?_
  refine jv_iload_n (x := p1) (pc' := 17) hE dX4_upTo_16 rfl 1 rfl rfl ?_
  refine jv_ishl (x := (1 : Int32)) (y := p1) (pc' := 18) hE dX4_upTo_17 rfl ?_
  refine jv_iload_n (x := p3) (pc' := 19) hE dX4_upTo_18 rfl 3 rfl rfl ?_
  refine jv_iconst (v := (0 : Int32)) (pc' := 20) hE dX4_upTo_19 rfl (by decide) ?_
  obtain ⟨q2, hq2, h⟩ := jv_bd_some h
  refine jv_callS (pc' := 23) (o := some (.int q2)) (σ' := q1) hE dX4_upTo_20 rfl lS_X4_32 (ok_X4_countFrom hq2) rfl (by decide) rfl (Nat.le_of_ble_eq_true rfl) ?_
  show jv_V E 23 [some (.ref 14), some (.int p1), some (.int p2), some (.int p3)] [.int q2] q1
  cases h
  exact hret _ _ dX4_upTo_23
