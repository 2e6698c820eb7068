section PGS
variable {S : pg_S} {Λ : pg_L} {d : Nat} {M : pg_M} {P : Option Value → pg_M → Prop}

theorem sX5_clear_0 {v0 : Nat} {Q0 : pg_M → Prop} {Q1 : pg_M → Prop} {Q2 : pg_M → Prop} {Q3 : pg_M → Prop} {Q4 : pg_M → Prop} {Q5 : pg_M → Prop} {Q6 : pg_M → Prop} {Q7 : pg_M → Prop}
    (h0 : pg_isX5 Λ v0)
    (e0 : ∀ N1, N1 = pg_si (pg_si (pg_si (pg_sa M (v0 + 6) (fun j => if j < 6 then 0 else M.1 (v0 + 6) j)) v0 10 0) v0 11 0) (v0 + 8) (0 : Int32).toNatClampNeg 3 → pg_Ev S Λ YX8_clear d [.ref (v0 + 9)] (pg_si (pg_si (pg_si (pg_si N1 v0 12 1) v0 13 20) v0 14 0) v0 15 0) (fun r M' => r = none ∧ Q0 M'))
    (e1 : ∀ N1, N1 = pg_si (pg_si (pg_si (pg_sa M (v0 + 6) (fun j => if j < 6 then 0 else M.1 (v0 + 6) j)) v0 10 0) v0 11 0) (v0 + 8) (0 : Int32).toNatClampNeg 3 → ∀ M1, Q0 M1 → pg_Ev S Λ YX8_add d [.ref (v0 + 9), .int (-1)] M1 (fun r M' => r = none ∧ Q1 M'))
    (e2 : ∀ N1, N1 = pg_si (pg_si (pg_si (pg_sa M (v0 + 6) (fun j => if j < 6 then 0 else M.1 (v0 + 6) j)) v0 10 0) v0 11 0) (v0 + 8) (0 : Int32).toNatClampNeg 3 → ∀ M1, Q0 M1 → ∀ M2, Q1 M2 → pg_Ev S Λ YX8_add d [.ref (v0 + 9), .int (-3)] M2 (fun r M' => r = none ∧ Q2 M'))
    (e3 : ∀ N1, N1 = pg_si (pg_si (pg_si (pg_sa M (v0 + 6) (fun j => if j < 6 then 0 else M.1 (v0 + 6) j)) v0 10 0) v0 11 0) (v0 + 8) (0 : Int32).toNatClampNeg 3 → ∀ M1, Q0 M1 → ∀ M2, Q1 M2 → ∀ M3, Q2 M3 → pg_Ev S Λ YX8_add d [.ref (v0 + 9), .int (-9)] M3 (fun r M' => r = none ∧ Q3 M'))
    (e4 : ∀ N1, N1 = pg_si (pg_si (pg_si (pg_sa M (v0 + 6) (fun j => if j < 6 then 0 else M.1 (v0 + 6) j)) v0 10 0) v0 11 0) (v0 + 8) (0 : Int32).toNatClampNeg 3 → ∀ M1, Q0 M1 → ∀ M2, Q1 M2 → ∀ M3, Q2 M3 → ∀ M4, Q3 M4 → pg_Ev S Λ YX8_add d [.ref (v0 + 9), .int (-2)] M4 (fun r M' => r = none ∧ Q4 M'))
    (e5 : ∀ N1, N1 = pg_si (pg_si (pg_si (pg_sa M (v0 + 6) (fun j => if j < 6 then 0 else M.1 (v0 + 6) j)) v0 10 0) v0 11 0) (v0 + 8) (0 : Int32).toNatClampNeg 3 → ∀ M1, Q0 M1 → ∀ M2, Q1 M2 → ∀ M3, Q2 M3 → ∀ M4, Q3 M4 → ∀ M5, Q4 M5 → pg_Ev S Λ YX8_add d [.ref (v0 + 9), .int (-10)] M5 (fun r M' => r = none ∧ Q5 M'))
    (e6 : ∀ N1, N1 = pg_si (pg_si (pg_si (pg_sa M (v0 + 6) (fun j => if j < 6 then 0 else M.1 (v0 + 6) j)) v0 10 0) v0 11 0) (v0 + 8) (0 : Int32).toNatClampNeg 3 → ∀ M1, Q0 M1 → ∀ M2, Q1 M2 → ∀ M3, Q2 M3 → ∀ M4, Q3 M4 → ∀ M5, Q4 M5 → ∀ M6, Q5 M6 → pg_Ev S Λ YX8_clear d [.ref (v0 + 12)] M6 (fun r M' => r = none ∧ Q6 M'))
    (e7 : ∀ N1, N1 = pg_si (pg_si (pg_si (pg_sa M (v0 + 6) (fun j => if j < 6 then 0 else M.1 (v0 + 6) j)) v0 10 0) v0 11 0) (v0 + 8) (0 : Int32).toNatClampNeg 3 → ∀ M1, Q0 M1 → ∀ M2, Q1 M2 → ∀ M3, Q2 M3 → ∀ M4, Q3 M4 → ∀ M5, Q4 M5 → ∀ M6, Q5 M6 → ∀ M7, Q6 M7 → pg_Ev S Λ YX8_add d [.ref (v0 + 12), .int (-1)] M7 (fun r M' => r = none ∧ Q7 M'))
    (k0 : ∀ N1, N1 = pg_si (pg_si (pg_si (pg_sa M (v0 + 6) (fun j => if j < 6 then 0 else M.1 (v0 + 6) j)) v0 10 0) v0 11 0) (v0 + 8) (0 : Int32).toNatClampNeg 3 → ∀ M1, Q0 M1 → ∀ M2, Q1 M2 → ∀ M3, Q2 M3 → ∀ M4, Q3 M4 → ∀ M5, Q4 M5 → ∀ M6, Q5 M6 → ∀ M7, Q6 M7 → ∀ M8, Q7 M8 → P none M8) :
    pg_At S Λ YX5_clear (d + 1) 0 [(0, .ref v0)] [] M P := by
  refine pg_aload_n (pc := 0) (i := 0) (j := 0) (x := v0) dX5_clear_0 rfl rfl ?_
  refine gfX5_28 (pc := 1) rfl h0 dX5_clear_1 ?_
  refine pg_iconst (pc := 4) (v := 0) dX5_clear_4 (by decide) ?_
  refine pg_jfill (pc := 5) (st := []) lkX5_50 (Nat.le_of_ble_eq_true rfl) h0.2.2.2.2.2.2.1 (by decide) dX5_clear_5 ?_
  refine pg_aload_n (pc := 8) (i := 0) (j := 0) (x := v0) dX5_clear_8 rfl rfl ?_
  refine pg_iconst (pc := 9) (v := 0) dX5_clear_9 (by decide) ?_
  refine pfX5_56 (pc := 10) rfl h0 dX5_clear_10 ?_
  refine pg_aload_n (pc := 13) (i := 0) (j := 0) (x := v0) dX5_clear_13 rfl rfl ?_
  refine pg_iconst (pc := 14) (v := 0) dX5_clear_14 (by decide) ?_
  refine pfX5_60 (pc := 15) rfl h0 dX5_clear_15 ?_
  refine pg_aload_n (pc := 18) (i := 0) (j := 0) (x := v0) dX5_clear_18 rfl rfl ?_
  refine gfX5_34 (pc := 19) rfl h0 dX5_clear_19 ?_
  refine pg_iconst (pc := 22) (v := 0) dX5_clear_22 (by decide) ?_
  refine pg_iconst (pc := 23) (v := 3) dX5_clear_23 (by decide) ?_
  refine pg_iast (pc := 24) h0.2.2.2.2.2.2.2.2.1 (by unfold vp_in; decide) dX5_clear_24 ?_
  refine pg_named (fun N1 u1 => ?_)
  refine pg_aload_n (pc := 25) (i := 0) (j := 0) (x := v0) dX5_clear_25 rfl rfl ?_
  refine pg_iconst (pc := 26) (v := 1) dX5_clear_26 (by decide) ?_
  refine pfX5_63 (pc := 27) rfl h0 dX5_clear_27 ?_
  refine pg_aload_n (pc := 30) (i := 0) (j := 0) (x := v0) dX5_clear_30 rfl rfl ?_
  refine pg_bipush (pc := 31) (v := 20) dX5_clear_31 (by decide) ?_
  refine pfX5_66 (pc := 33) rfl h0 dX5_clear_33 ?_
  refine pg_aload_n (pc := 36) (i := 0) (j := 0) (x := v0) dX5_clear_36 rfl rfl ?_
  refine pg_iconst (pc := 37) (v := 0) dX5_clear_37 (by decide) ?_
  refine pfX5_69 (pc := 38) rfl h0 dX5_clear_38 ?_
  refine pg_aload_n (pc := 41) (i := 0) (j := 0) (x := v0) dX5_clear_41 rfl rfl ?_
  refine pg_iconst (pc := 42) (v := 0) dX5_clear_42 (by decide) ?_
  refine pfX5_72 (pc := 43) rfl h0 dX5_clear_43 ?_
  refine pg_aload_n (pc := 46) (i := 0) (j := 0) (x := v0) dX5_clear_46 rfl rfl ?_
  refine gfX5_40 (pc := 47) rfl h0 dX5_clear_47 ?_
  refine pg_callV (pc := 50) (As := []) (st := []) okX8_clear lkX5_75 rfl (pg_isX5.r8 h0).1 rfl (Nat.le_refl _) (Nat.le_of_ble_eq_true rfl) (e0 N1 u1) dX5_clear_50 (fun r1 M1 w1 => ?_)
  obtain ⟨rfl, w1⟩ := w1
  refine pg_aload_n (pc := 53) (i := 0) (j := 0) (x := v0) dX5_clear_53 rfl rfl ?_
  refine gfX5_40 (pc := 54) rfl h0 dX5_clear_54 ?_
  refine pg_iconst (pc := 57) (v := (-1)) dX5_clear_57 (by decide) ?_
  refine pg_callV (pc := 58) (As := [.int (-1)]) (st := []) okX8_add lkX5_76 rfl (pg_isX5.r8 h0).1 rfl (Nat.le_refl _) (Nat.le_of_ble_eq_true rfl) (e1 N1 u1 M1 w1) dX5_clear_58 (fun r2 M2 w2 => ?_)
  obtain ⟨rfl, w2⟩ := w2
  refine pg_aload_n (pc := 61) (i := 0) (j := 0) (x := v0) dX5_clear_61 rfl rfl ?_
  refine gfX5_40 (pc := 62) rfl h0 dX5_clear_62 ?_
  refine pg_bipush (pc := 65) (v := (-3)) dX5_clear_65 (by decide) ?_
  refine pg_callV (pc := 67) (As := [.int (-3)]) (st := []) okX8_add lkX5_76 rfl (pg_isX5.r8 h0).1 rfl (Nat.le_refl _) (Nat.le_of_ble_eq_true rfl) (e2 N1 u1 M1 w1 M2 w2) dX5_clear_67 (fun r3 M3 w3 => ?_)
  obtain ⟨rfl, w3⟩ := w3
  refine pg_aload_n (pc := 70) (i := 0) (j := 0) (x := v0) dX5_clear_70 rfl rfl ?_
  refine gfX5_40 (pc := 71) rfl h0 dX5_clear_71 ?_
  refine pg_bipush (pc := 74) (v := (-9)) dX5_clear_74 (by decide) ?_
  refine pg_callV (pc := 76) (As := [.int (-9)]) (st := []) okX8_add lkX5_76 rfl (pg_isX5.r8 h0).1 rfl (Nat.le_refl _) (Nat.le_of_ble_eq_true rfl) (e3 N1 u1 M1 w1 M2 w2 M3 w3) dX5_clear_76 (fun r4 M4 w4 => ?_)
  obtain ⟨rfl, w4⟩ := w4
  refine pg_aload_n (pc := 79) (i := 0) (j := 0) (x := v0) dX5_clear_79 rfl rfl ?_
  refine gfX5_40 (pc := 80) rfl h0 dX5_clear_80 ?_
  refine pg_bipush (pc := 83) (v := (-2)) dX5_clear_83 (by decide) ?_
  refine pg_callV (pc := 85) (As := [.int (-2)]) (st := []) okX8_add lkX5_76 rfl (pg_isX5.r8 h0).1 rfl (Nat.le_refl _) (Nat.le_of_ble_eq_true rfl) (e4 N1 u1 M1 w1 M2 w2 M3 w3 M4 w4) dX5_clear_85 (fun r5 M5 w5 => ?_)
  obtain ⟨rfl, w5⟩ := w5
  refine pg_aload_n (pc := 88) (i := 0) (j := 0) (x := v0) dX5_clear_88 rfl rfl ?_
  refine gfX5_40 (pc := 89) rfl h0 dX5_clear_89 ?_
  refine pg_bipush (pc := 92) (v := (-10)) dX5_clear_92 (by decide) ?_
  refine pg_callV (pc := 94) (As := [.int (-10)]) (st := []) okX8_add lkX5_76 rfl (pg_isX5.r8 h0).1 rfl (Nat.le_refl _) (Nat.le_of_ble_eq_true rfl) (e5 N1 u1 M1 w1 M2 w2 M3 w3 M4 w4 M5 w5) dX5_clear_94 (fun r6 M6 w6 => ?_)
  obtain ⟨rfl, w6⟩ := w6
  refine pg_aload_n (pc := 97) (i := 0) (j := 0) (x := v0) dX5_clear_97 rfl rfl ?_
  refine gfX5_44 (pc := 98) rfl h0 dX5_clear_98 ?_
  refine pg_callV (pc := 101) (As := []) (st := []) okX8_clear lkX5_75 rfl (pg_isX5.r9 h0).1 rfl (Nat.le_refl _) (Nat.le_of_ble_eq_true rfl) (e6 N1 u1 M1 w1 M2 w2 M3 w3 M4 w4 M5 w5 M6 w6) dX5_clear_101 (fun r7 M7 w7 => ?_)
  obtain ⟨rfl, w7⟩ := w7
  refine pg_aload_n (pc := 104) (i := 0) (j := 0) (x := v0) dX5_clear_104 rfl rfl ?_
  refine gfX5_44 (pc := 105) rfl h0 dX5_clear_105 ?_
  refine pg_iconst (pc := 108) (v := (-1)) dX5_clear_108 (by decide) ?_
  refine pg_callV (pc := 109) (As := [.int (-1)]) (st := []) okX8_add lkX5_76 rfl (pg_isX5.r9 h0).1 rfl (Nat.le_refl _) (Nat.le_of_ble_eq_true rfl) (e7 N1 u1 M1 w1 M2 w2 M3 w3 M4 w4 M5 w5 M6 w6 M7 w7) dX5_clear_109 (fun r8 M8 w8 => ?_)
  obtain ⟨rfl, w8⟩ := w8
  exact pg_vret (pc := 112) rfl dX5_clear_112 (k0 N1 u1 M1 w1 M2 w2 M3 w3 M4 w4 M5 w5 M6 w6 M7 w7 M8 w8)
theorem oX5_clear {d : Nat} {v0 : Nat} (h : pg_At S Λ YX5_clear d 0 [(0, .ref v0)] [] M P) : pg_Ev S Λ YX5_clear d [.ref v0] M P := pg_Ev.of (by decide) (by first | decide | exact Nat.le_of_ble_eq_true rfl) h
theorem sX5_has_0 {v0 : Nat} {v1 : Int32} 
    (h0 : pg_isX5 Λ v0)
    (k0 : (v1 < 0) → P (some (.int 0)) M)
    (k1 : (¬ v1 < 0) → ((M.1 v0 10) ≤ v1) → P (some (.int 0)) M)
    (k2 : (¬ v1 < 0) → (¬ (M.1 v0 10) ≤ v1) → P (some (.int 1)) M) :
    pg_At S Λ YX5_has d 0 [(0, .ref v0), (1, .int v1)] [] M P := by
  refine pg_iload_n (pc := 0) (i := 1) (j := 1) (x := v1) dX5_has_0 rfl rfl ?_
  refine pg_if_lt (pc := 1) (tgt := 16) dX5_has_1 (by decide) (fun c0 => ?_) (fun c0 => ?_)
  · skip
    refine pg_iconst (pc := 16) (v := 0) dX5_has_16 (by decide) ?_
    exact pg_zret (pc := 17) rfl rfl dX5_has_17 (k0 c0)
  · skip
    refine pg_iload_n (pc := 4) (i := 1) (j := 1) (x := v1) dX5_has_4 rfl rfl ?_
    refine pg_aload_n (pc := 5) (i := 0) (j := 0) (x := v0) dX5_has_5 rfl rfl ?_
    refine gfX5_56 (pc := 6) rfl h0 dX5_has_6 ?_
    refine pg_icmp_ge (pc := 9) (tgt := 16) dX5_has_9 (by decide) (fun c1 => ?_) (fun c1 => ?_)
    · skip
      refine pg_iconst (pc := 16) (v := 0) dX5_has_16 (by decide) ?_
      exact pg_zret (pc := 17) rfl rfl dX5_has_17 (k1 c0 c1)
    · skip
      refine pg_iconst (pc := 12) (v := 1) dX5_has_12 (by decide) ?_
      refine pg_goto (pc := 13) (tgt := 17) dX5_has_13 (by decide) ?_
      exact pg_zret (pc := 17) rfl rfl dX5_has_17 (k2 c0 c1)
theorem oX5_has {d : Nat} {v0 : Nat} {v1 : Int32} (h : pg_At S Λ YX5_has d 0 [(0, .ref v0), (1, .int v1)] [] M P) : pg_Ev S Λ YX5_has d [.ref v0, .int v1] M P := pg_Ev.of (by decide) (by first | decide | exact Nat.le_of_ble_eq_true rfl) h
theorem sX5_clothNamed_0 {v0 : Nat} {v1 : Int64} 
    (k0 : pg_At S Λ YX5_clothNamed d 2 [(0, .ref v0), (1, .long v1), (3, .int 0)] [] M P) :
    pg_At S Λ YX5_clothNamed d 0 [(0, .ref v0), (1, .long v1)] [] M P := by
  refine pg_iconst (pc := 0) (v := 0) dX5_clothNamed_0 (by decide) ?_
  refine pg_istore_n (pc := 1) (i := 3) (ls' := [(3, .int 0), (0, .ref v0), (1, .long v1)]) dX5_clothNamed_1 rfl (by decide) rfl ?_
  refine pg_drop (ks := [1, 2, 0]) (ls' := [(0, .ref v0), (1, .long v1), (3, .int 0)]) rfl ?_
  exact k0
theorem sX5_clothNamed_2 {v0 : Nat} {v1 : Int64} {v3 : Int32} 
    (h0 : pg_isX5 Λ v0)
    (k0 : ((M.1 v0 10) ≤ v3) → P (some (.int (-1))) M)
    (b0 : (¬ (M.1 v0 10) ≤ v3) → vp_in v3 6)
    (k1 : (¬ (M.1 v0 10) ≤ v3) → (¬ (lg_cmp (M.2.1 (v0 + 1) v3.toNatClampNeg) v1) = 0) → pg_At S Λ YX5_clothNamed d 2 [(0, .ref v0), (1, .long v1), (3, .int (v3 + 1))] [] M P)
    (k2 : (¬ (M.1 v0 10) ≤ v3) → ((lg_cmp (M.2.1 (v0 + 1) v3.toNatClampNeg) v1) = 0) → P (some (.int v3)) M) :
    pg_At S Λ YX5_clothNamed d 2 [(0, .ref v0), (1, .long v1), (3, .int v3)] [] M P := by
  refine pg_iload_n (pc := 2) (i := 3) (j := 2) (x := v3) dX5_clothNamed_2 rfl rfl ?_
  refine pg_aload_n (pc := 3) (i := 0) (j := 0) (x := v0) dX5_clothNamed_3 rfl rfl ?_
  refine gfX5_56 (pc := 4) rfl h0 dX5_clothNamed_4 ?_
  refine pg_icmp_ge (pc := 7) (tgt := 29) dX5_clothNamed_7 (by decide) (fun c0 => ?_) (fun c0 => ?_)
  · skip
    refine pg_iconst (pc := 29) (v := (-1)) dX5_clothNamed_29 (by decide) ?_
    exact pg_iret (pc := 30) rfl dX5_clothNamed_30 (k0 c0)
  · skip
    refine pg_aload_n (pc := 10) (i := 0) (j := 0) (x := v0) dX5_clothNamed_10 rfl rfl ?_
    refine gfX5_9 (pc := 11) rfl h0 dX5_clothNamed_11 ?_
    refine pg_iload_n (pc := 14) (i := 3) (j := 2) (x := v3) dX5_clothNamed_14 rfl rfl ?_
    refine pg_lald (pc := 15) h0.2.1 (b0 c0) dX5_clothNamed_15 ?_
    refine pg_lload_n (pc := 16) (i := 1) (j := 1) (x := v1) dX5_clothNamed_16 rfl rfl ?_
    refine pg_lcmp (pc := 17) dX5_clothNamed_17 ?_
    refine pg_if_ne (pc := 18) (tgt := 23) dX5_clothNamed_18 (by decide) (fun c1 => ?_) (fun c1 => ?_)
    · skip
      refine pg_iinc (pc := 23) (i := 3) (j := 2) (x := v3) (v := v3 + 1) (ls' := [(3, .int (v3 + 1)), (0, .ref v0), (1, .long v1)]) dX5_clothNamed_23 rfl rfl (by decide) rfl ?_
      refine pg_goto (pc := 26) (tgt := 2) dX5_clothNamed_26 (by decide) ?_
      refine pg_drop (ks := [1, 2, 0]) (ls' := [(0, .ref v0), (1, .long v1), (3, .int (v3 + 1))]) rfl ?_
      exact k1 c0 c1
    · skip
      refine pg_iload_n (pc := 21) (i := 3) (j := 2) (x := v3) dX5_clothNamed_21 rfl rfl ?_
      exact pg_iret (pc := 22) rfl dX5_clothNamed_22 (k2 c0 c1)
theorem oX5_clothNamed {d : Nat} {v0 : Nat} {v1 : Int64} (h : pg_At S Λ YX5_clothNamed d 0 [(0, .ref v0), (1, .long v1)] [] M P) : pg_Ev S Λ YX5_clothNamed d [.ref v0, .long v1] M P := pg_Ev.of (by decide) (by first | decide | exact Nat.le_of_ble_eq_true rfl) h
theorem sX5_clashTold_0 {v0 : Nat} {v1 : Int32} {v2 : Int32} 
    (h0 : pg_isX5 Λ v0)
    (b0 : vp_in (pg_min v1 v2) 6)
    (k0 : ((((M.1 (v0 + 6) (pg_min v1 v2).toNatClampNeg) >>> ((pg_max v1 v2) &&& 31)) &&& 1) = 0) → P (some (.int 0)) M)
    (k1 : (¬ (((M.1 (v0 + 6) (pg_min v1 v2).toNatClampNeg) >>> ((pg_max v1 v2) &&& 31)) &&& 1) = 0) → P (some (.int 1)) M) :
    pg_At S Λ YX5_clashTold (d + 1) 0 [(0, .ref v0), (1, .int v1), (2, .int v2)] [] M P := by
  refine pg_aload_n (pc := 0) (i := 0) (j := 0) (x := v0) dX5_clashTold_0 rfl rfl ?_
  refine gfX5_28 (pc := 1) rfl h0 dX5_clashTold_1 ?_
  refine pg_iload_n (pc := 4) (i := 1) (j := 1) (x := v1) dX5_clashTold_4 rfl rfl ?_
  refine pg_iload_n (pc := 5) (i := 2) (j := 2) (x := v2) dX5_clashTold_5 rfl rfl ?_
  refine pg_jmin (pc := 6) (st := [.ref (v0 + 6)]) lkX5_80 (Nat.le_of_ble_eq_true rfl) dX5_clashTold_6 ?_
  refine pg_iald (pc := 9) h0.2.2.2.2.2.2.1 b0 dX5_clashTold_9 ?_
  refine pg_iload_n (pc := 10) (i := 1) (j := 1) (x := v1) dX5_clashTold_10 rfl rfl ?_
  refine pg_iload_n (pc := 11) (i := 2) (j := 2) (x := v2) dX5_clashTold_11 rfl rfl ?_
  refine pg_jmax (pc := 12) (st := [.int (M.1 (v0 + 6) (pg_min v1 v2).toNatClampNeg)]) lkX5_86 (Nat.le_of_ble_eq_true rfl) dX5_clashTold_12 ?_
  refine pg_ishr (pc := 15) dX5_clashTold_15 ?_
  refine pg_iconst (pc := 16) (v := 1) dX5_clashTold_16 (by decide) ?_
  refine pg_iand (pc := 17) dX5_clashTold_17 ?_
  refine pg_if_eq (pc := 18) (tgt := 25) dX5_clashTold_18 (by decide) (fun c0 => ?_) (fun c0 => ?_)
  · skip
    refine pg_iconst (pc := 25) (v := 0) dX5_clashTold_25 (by decide) ?_
    exact pg_zret (pc := 26) rfl rfl dX5_clashTold_26 (k0 c0)
  · skip
    refine pg_iconst (pc := 21) (v := 1) dX5_clashTold_21 (by decide) ?_
    refine pg_goto (pc := 22) (tgt := 26) dX5_clashTold_22 (by decide) ?_
    exact pg_zret (pc := 26) rfl rfl dX5_clashTold_26 (k1 c0)
theorem oX5_clashTold {d : Nat} {v0 : Nat} {v1 : Int32} {v2 : Int32} (h : pg_At S Λ YX5_clashTold d 0 [(0, .ref v0), (1, .int v1), (2, .int v2)] [] M P) : pg_Ev S Λ YX5_clashTold d [.ref v0, .int v1, .int v2] M P := pg_Ev.of (by decide) (by first | decide | exact Nat.le_of_ble_eq_true rfl) h
theorem sX5_addClash_0 {v0 : Nat} {v1 : Int32} {v2 : Int32} 
    (h0 : pg_isX5 Λ v0)
    (b0 : vp_in (pg_min v1 v2) 6)
    (k0 : ∀ N1, N1 = pg_si M (v0 + 6) (pg_min v1 v2).toNatClampNeg ((M.1 (v0 + 6) (pg_min v1 v2).toNatClampNeg) ||| ((1 : Int32) <<< ((pg_max v1 v2) &&& 31))) → P none (pg_si N1 v0 15 ((N1.1 v0 15) + 1))) :
    pg_At S Λ YX5_addClash (d + 1) 0 [(0, .ref v0), (1, .int v1), (2, .int v2)] [] M P := by
  refine pg_aload_n (pc := 0) (i := 0) (j := 0) (x := v0) dX5_addClash_0 rfl rfl ?_
  refine gfX5_28 (pc := 1) rfl h0 dX5_addClash_1 ?_
  refine pg_iload_n (pc := 4) (i := 1) (j := 1) (x := v1) dX5_addClash_4 rfl rfl ?_
  refine pg_iload_n (pc := 5) (i := 2) (j := 2) (x := v2) dX5_addClash_5 rfl rfl ?_
  refine pg_jmin (pc := 6) (st := [.ref (v0 + 6)]) lkX5_80 (Nat.le_of_ble_eq_true rfl) dX5_addClash_6 ?_
  refine pg_dup2_11 (pc := 9) dX5_addClash_9 rfl rfl ?_
  refine pg_iald (pc := 10) h0.2.2.2.2.2.2.1 b0 dX5_addClash_10 ?_
  refine pg_iconst (pc := 11) (v := 1) dX5_addClash_11 (by decide) ?_
  refine pg_iload_n (pc := 12) (i := 1) (j := 1) (x := v1) dX5_addClash_12 rfl rfl ?_
  refine pg_iload_n (pc := 13) (i := 2) (j := 2) (x := v2) dX5_addClash_13 rfl rfl ?_
  refine pg_jmax (pc := 14) (st := [.int 1, .int (M.1 (v0 + 6) (pg_min v1 v2).toNatClampNeg), .int (pg_min v1 v2), .ref (v0 + 6)]) lkX5_86 (Nat.le_of_ble_eq_true rfl) dX5_addClash_14 ?_
  refine pg_ishl (pc := 17) dX5_addClash_17 ?_
  refine pg_ior (pc := 18) dX5_addClash_18 ?_
  refine pg_iast (pc := 19) h0.2.2.2.2.2.2.1 b0 dX5_addClash_19 ?_
  refine pg_named (fun N1 u1 => ?_)
  refine pg_aload_n (pc := 20) (i := 0) (j := 0) (x := v0) dX5_addClash_20 rfl rfl ?_
  refine pg_dup (pc := 21) dX5_addClash_21 rfl ?_
  refine gfX5_72 (pc := 22) rfl h0 dX5_addClash_22 ?_
  refine pg_iconst (pc := 25) (v := 1) dX5_addClash_25 (by decide) ?_
  refine pg_iadd (pc := 26) dX5_addClash_26 ?_
  refine pfX5_72 (pc := 27) rfl h0 dX5_addClash_27 ?_
  exact pg_vret (pc := 30) rfl dX5_addClash_30 (k0 N1 u1)
theorem oX5_addClash {d : Nat} {v0 : Nat} {v1 : Int32} {v2 : Int32} (h : pg_At S Λ YX5_addClash d 0 [(0, .ref v0), (1, .int v1), (2, .int v2)] [] M P) : pg_Ev S Λ YX5_addClash d [.ref v0, .int v1, .int v2] M P := pg_Ev.of (by decide) (by first | decide | exact Nat.le_of_ble_eq_true rfl) h
theorem sX5_clashesAmong_0 {v0 : Nat} {v1 : Int32} 
    (k0 : pg_At S Λ YX5_clashesAmong (d + 1) 4 [(0, .ref v0), (1, .int v1), (2, .int 0), (3, .int 0)] [] M P) :
    pg_At S Λ YX5_clashesAmong (d + 1) 0 [(0, .ref v0), (1, .int v1)] [] M P := by
  refine pg_iconst (pc := 0) (v := 0) dX5_clashesAmong_0 (by decide) ?_
  refine pg_istore_n (pc := 1) (i := 2) (ls' := [(2, .int 0), (0, .ref v0), (1, .int v1)]) dX5_clashesAmong_1 rfl (by decide) rfl ?_
  refine pg_iconst (pc := 2) (v := 0) dX5_clashesAmong_2 (by decide) ?_
  refine pg_istore_n (pc := 3) (i := 3) (ls' := [(3, .int 0), (2, .int 0), (0, .ref v0), (1, .int v1)]) dX5_clashesAmong_3 rfl (by decide) rfl ?_
  refine pg_drop (ks := [2, 3, 1, 0]) (ls' := [(0, .ref v0), (1, .int v1), (2, .int 0), (3, .int 0)]) rfl ?_
  exact k0
theorem sX5_clashesAmong_4 {v0 : Nat} {v1 : Int32} {v2 : Int32} {v3 : Int32} 
    (h0 : pg_isX5 Λ v0)
    (k0 : ((M.1 v0 10) ≤ v3) → P (some (.int v2)) M)
    (k1 : (¬ (M.1 v0 10) ≤ v3) → (((v1 >>> (v3 &&& 31)) &&& 1) = 0) → pg_At S Λ YX5_clashesAmong (d + 1) 4 [(0, .ref v0), (1, .int v1), (2, .int v2), (3, .int (v3 + 1))] [] M P)
    (b0 : (¬ (M.1 v0 10) ≤ v3) → (¬ ((v1 >>> (v3 &&& 31)) &&& 1) = 0) → vp_in v3 6)
    (k2 : (¬ (M.1 v0 10) ≤ v3) → (¬ ((v1 >>> (v3 &&& 31)) &&& 1) = 0) → pg_At S Λ YX5_clashesAmong (d + 1) 4 [(0, .ref v0), (1, .int v1), (2, .int (v2 + (pg_bc ((M.1 (v0 + 6) v3.toNatClampNeg) &&& v1)))), (3, .int (v3 + 1))] [] M P) :
    pg_At S Λ YX5_clashesAmong (d + 1) 4 [(0, .ref v0), (1, .int v1), (2, .int v2), (3, .int v3)] [] M P := by
  refine pg_iload_n (pc := 4) (i := 3) (j := 3) (x := v3) dX5_clashesAmong_4 rfl rfl ?_
  refine pg_aload_n (pc := 5) (i := 0) (j := 0) (x := v0) dX5_clashesAmong_5 rfl rfl ?_
  refine gfX5_56 (pc := 6) rfl h0 dX5_clashesAmong_6 ?_
  refine pg_icmp_ge (pc := 9) (tgt := 40) dX5_clashesAmong_9 (by decide) (fun c0 => ?_) (fun c0 => ?_)
  · skip
    refine pg_iload_n (pc := 40) (i := 2) (j := 2) (x := v2) dX5_clashesAmong_40 rfl rfl ?_
    exact pg_iret (pc := 41) rfl dX5_clashesAmong_41 (k0 c0)
  · skip
    refine pg_iload_n (pc := 12) (i := 1) (j := 1) (x := v1) dX5_clashesAmong_12 rfl rfl ?_
    refine pg_iload_n (pc := 13) (i := 3) (j := 3) (x := v3) dX5_clashesAmong_13 rfl rfl ?_
    refine pg_ishr (pc := 14) dX5_clashesAmong_14 ?_
    refine pg_iconst (pc := 15) (v := 1) dX5_clashesAmong_15 (by decide) ?_
    refine pg_iand (pc := 16) dX5_clashesAmong_16 ?_
    refine pg_if_eq (pc := 17) (tgt := 34) dX5_clashesAmong_17 (by decide) (fun c1 => ?_) (fun c1 => ?_)
    · skip
      refine pg_iinc (pc := 34) (i := 3) (j := 3) (x := v3) (v := v3 + 1) (ls' := [(3, .int (v3 + 1)), (0, .ref v0), (1, .int v1), (2, .int v2)]) dX5_clashesAmong_34 rfl rfl (by decide) rfl ?_
      refine pg_goto (pc := 37) (tgt := 4) dX5_clashesAmong_37 (by decide) ?_
      refine pg_drop (ks := [1, 2, 3, 0]) (ls' := [(0, .ref v0), (1, .int v1), (2, .int v2), (3, .int (v3 + 1))]) rfl ?_
      exact k1 c0 c1
    · skip
      refine pg_iload_n (pc := 20) (i := 2) (j := 2) (x := v2) dX5_clashesAmong_20 rfl rfl ?_
      refine pg_aload_n (pc := 21) (i := 0) (j := 0) (x := v0) dX5_clashesAmong_21 rfl rfl ?_
      refine gfX5_28 (pc := 22) rfl h0 dX5_clashesAmong_22 ?_
      refine pg_iload_n (pc := 25) (i := 3) (j := 3) (x := v3) dX5_clashesAmong_25 rfl rfl ?_
      refine pg_iald (pc := 26) h0.2.2.2.2.2.2.1 (b0 c0 c1) dX5_clashesAmong_26 ?_
      refine pg_iload_n (pc := 27) (i := 1) (j := 1) (x := v1) dX5_clashesAmong_27 rfl rfl ?_
      refine pg_iand (pc := 28) dX5_clashesAmong_28 ?_
      refine pg_jbc (pc := 29) (st := [.int v2]) lkX5_89 (Nat.le_of_ble_eq_true rfl) dX5_clashesAmong_29 ?_
      refine pg_iadd (pc := 32) dX5_clashesAmong_32 ?_
      refine pg_istore_n (pc := 33) (i := 2) (ls' := [(2, .int (v2 + (pg_bc ((M.1 (v0 + 6) v3.toNatClampNeg) &&& v1)))), (0, .ref v0), (1, .int v1), (3, .int v3)]) dX5_clashesAmong_33 rfl (by decide) rfl ?_
      refine pg_iinc (pc := 34) (i := 3) (j := 3) (x := v3) (v := v3 + 1) (ls' := [(3, .int (v3 + 1)), (2, .int (v2 + (pg_bc ((M.1 (v0 + 6) v3.toNatClampNeg) &&& v1)))), (0, .ref v0), (1, .int v1)]) dX5_clashesAmong_34 rfl rfl (by decide) rfl ?_
      refine pg_goto (pc := 37) (tgt := 4) dX5_clashesAmong_37 (by decide) ?_
      refine pg_drop (ks := [2, 3, 1, 0]) (ls' := [(0, .ref v0), (1, .int v1), (2, .int (v2 + (pg_bc ((M.1 (v0 + 6) v3.toNatClampNeg) &&& v1)))), (3, .int (v3 + 1))]) rfl ?_
      exact k2 c0 c1
theorem oX5_clashesAmong {d : Nat} {v0 : Nat} {v1 : Int32} (h : pg_At S Λ YX5_clashesAmong d 0 [(0, .ref v0), (1, .int v1)] [] M P) : pg_Ev S Λ YX5_clashesAmong d [.ref v0, .int v1] M P := pg_Ev.of (by decide) (by first | decide | exact Nat.le_of_ble_eq_true rfl) h
theorem sX5_worthOf_0 {v0 : Nat} {v1 : Int32} 
    (k0 : pg_At S Λ YX5_worthOf d 4 [(0, .ref v0), (1, .int v1), (2, .int 0), (3, .int 0)] [] M P) :
    pg_At S Λ YX5_worthOf d 0 [(0, .ref v0), (1, .int v1)] [] M P := by
  refine pg_iconst (pc := 0) (v := 0) dX5_worthOf_0 (by decide) ?_
  refine pg_istore_n (pc := 1) (i := 2) (ls' := [(2, .int 0), (0, .ref v0), (1, .int v1)]) dX5_worthOf_1 rfl (by decide) rfl ?_
  refine pg_iconst (pc := 2) (v := 0) dX5_worthOf_2 (by decide) ?_
  refine pg_istore_n (pc := 3) (i := 3) (ls' := [(3, .int 0), (2, .int 0), (0, .ref v0), (1, .int v1)]) dX5_worthOf_3 rfl (by decide) rfl ?_
  refine pg_drop (ks := [2, 3, 1, 0]) (ls' := [(0, .ref v0), (1, .int v1), (2, .int 0), (3, .int 0)]) rfl ?_
  exact k0
theorem sX5_worthOf_4 {v0 : Nat} {v1 : Int32} {v2 : Int32} {v3 : Int32} 
    (h0 : pg_isX5 Λ v0)
    (k0 : ((M.1 v0 10) ≤ v3) → P (some (.int v2)) M)
    (k1 : (¬ (M.1 v0 10) ≤ v3) → (((v1 >>> (v3 &&& 31)) &&& 1) = 0) → pg_At S Λ YX5_worthOf d 4 [(0, .ref v0), (1, .int v1), (2, .int v2), (3, .int (v3 + 1))] [] M P)
    (b0 : (¬ (M.1 v0 10) ≤ v3) → (¬ ((v1 >>> (v3 &&& 31)) &&& 1) = 0) → vp_in v3 6)
    (k2 : (¬ (M.1 v0 10) ≤ v3) → (¬ ((v1 >>> (v3 &&& 31)) &&& 1) = 0) → pg_At S Λ YX5_worthOf d 4 [(0, .ref v0), (1, .int v1), (2, .int (v2 + (M.1 (v0 + 5) v3.toNatClampNeg))), (3, .int (v3 + 1))] [] M P) :
    pg_At S Λ YX5_worthOf d 4 [(0, .ref v0), (1, .int v1), (2, .int v2), (3, .int v3)] [] M P := by
  refine pg_iload_n (pc := 4) (i := 3) (j := 3) (x := v3) dX5_worthOf_4 rfl rfl ?_
  refine pg_aload_n (pc := 5) (i := 0) (j := 0) (x := v0) dX5_worthOf_5 rfl rfl ?_
  refine gfX5_56 (pc := 6) rfl h0 dX5_worthOf_6 ?_
  refine pg_icmp_ge (pc := 9) (tgt := 35) dX5_worthOf_9 (by decide) (fun c0 => ?_) (fun c0 => ?_)
  · skip
    refine pg_iload_n (pc := 35) (i := 2) (j := 2) (x := v2) dX5_worthOf_35 rfl rfl ?_
    exact pg_iret (pc := 36) rfl dX5_worthOf_36 (k0 c0)
  · skip
    refine pg_iload_n (pc := 12) (i := 1) (j := 1) (x := v1) dX5_worthOf_12 rfl rfl ?_
    refine pg_iload_n (pc := 13) (i := 3) (j := 3) (x := v3) dX5_worthOf_13 rfl rfl ?_
    refine pg_ishr (pc := 14) dX5_worthOf_14 ?_
    refine pg_iconst (pc := 15) (v := 1) dX5_worthOf_15 (by decide) ?_
    refine pg_iand (pc := 16) dX5_worthOf_16 ?_
    refine pg_if_eq (pc := 17) (tgt := 29) dX5_worthOf_17 (by decide) (fun c1 => ?_) (fun c1 => ?_)
    · skip
      refine pg_iinc (pc := 29) (i := 3) (j := 3) (x := v3) (v := v3 + 1) (ls' := [(3, .int (v3 + 1)), (0, .ref v0), (1, .int v1), (2, .int v2)]) dX5_worthOf_29 rfl rfl (by decide) rfl ?_
      refine pg_goto (pc := 32) (tgt := 4) dX5_worthOf_32 (by decide) ?_
      refine pg_drop (ks := [1, 2, 3, 0]) (ls' := [(0, .ref v0), (1, .int v1), (2, .int v2), (3, .int (v3 + 1))]) rfl ?_
      exact k1 c0 c1
    · skip
      refine pg_iload_n (pc := 20) (i := 2) (j := 2) (x := v2) dX5_worthOf_20 rfl rfl ?_
      refine pg_aload_n (pc := 21) (i := 0) (j := 0) (x := v0) dX5_worthOf_21 rfl rfl ?_
      refine gfX5_25 (pc := 22) rfl h0 dX5_worthOf_22 ?_
      refine pg_iload_n (pc := 25) (i := 3) (j := 3) (x := v3) dX5_worthOf_25 rfl rfl ?_
      refine pg_iald (pc := 26) h0.2.2.2.2.2.1 (b0 c0 c1) dX5_worthOf_26 ?_
      refine pg_iadd (pc := 27) dX5_worthOf_27 ?_
      refine pg_istore_n (pc := 28) (i := 2) (ls' := [(2, .int (v2 + (M.1 (v0 + 5) v3.toNatClampNeg))), (0, .ref v0), (1, .int v1), (3, .int v3)]) dX5_worthOf_28 rfl (by decide) rfl ?_
      refine pg_iinc (pc := 29) (i := 3) (j := 3) (x := v3) (v := v3 + 1) (ls' := [(3, .int (v3 + 1)), (2, .int (v2 + (M.1 (v0 + 5) v3.toNatClampNeg))), (0, .ref v0), (1, .int v1)]) dX5_worthOf_29 rfl rfl (by decide) rfl ?_
      refine pg_goto (pc := 32) (tgt := 4) dX5_worthOf_32 (by decide) ?_
      refine pg_drop (ks := [2, 3, 1, 0]) (ls' := [(0, .ref v0), (1, .int v1), (2, .int (v2 + (M.1 (v0 + 5) v3.toNatClampNeg))), (3, .int (v3 + 1))]) rfl ?_
      exact k2 c0 c1
theorem oX5_worthOf {d : Nat} {v0 : Nat} {v1 : Int32} (h : pg_At S Λ YX5_worthOf d 0 [(0, .ref v0), (1, .int v1)] [] M P) : pg_Ev S Λ YX5_worthOf d [.ref v0, .int v1] M P := pg_Ev.of (by decide) (by first | decide | exact Nat.le_of_ble_eq_true rfl) h
theorem sX5_pegsFor_0 {v0 : Nat} {v1 : Int32} 
    (h0 : pg_isX5 Λ v0)
    (b0 : vp_in v1 6)
    (k0 : (¬ (M.1 (v0 + 2) v1.toNatClampNeg) = 1) → P (some (.int 2)) M)
    (k1 : ((M.1 (v0 + 2) v1.toNatClampNeg) = 1) → P (some (.int 4)) M) :
    pg_At S Λ YX5_pegsFor d 0 [(0, .ref v0), (1, .int v1)] [] M P := by
  refine pg_aload_n (pc := 0) (i := 0) (j := 0) (x := v0) dX5_pegsFor_0 rfl rfl ?_
  refine gfX5_15 (pc := 1) rfl h0 dX5_pegsFor_1 ?_
  refine pg_iload_n (pc := 4) (i := 1) (j := 1) (x := v1) dX5_pegsFor_4 rfl rfl ?_
  refine pg_iald (pc := 5) h0.2.2.1 b0 dX5_pegsFor_5 ?_
  refine pg_iconst (pc := 6) (v := 1) dX5_pegsFor_6 (by decide) ?_
  refine pg_icmp_ne (pc := 7) (tgt := 14) dX5_pegsFor_7 (by decide) (fun c0 => ?_) (fun c0 => ?_)
  · skip
    refine pg_iconst (pc := 14) (v := 2) dX5_pegsFor_14 (by decide) ?_
    exact pg_iret (pc := 15) rfl dX5_pegsFor_15 (k0 c0)
  · skip
    refine pg_iconst (pc := 10) (v := 4) dX5_pegsFor_10 (by decide) ?_
    refine pg_goto (pc := 11) (tgt := 15) dX5_pegsFor_11 (by decide) ?_
    exact pg_iret (pc := 15) rfl dX5_pegsFor_15 (k1 c0)
theorem oX5_pegsFor {d : Nat} {v0 : Nat} {v1 : Int32} (h : pg_At S Λ YX5_pegsFor d 0 [(0, .ref v0), (1, .int v1)] [] M P) : pg_Ev S Λ YX5_pegsFor d [.ref v0, .int v1] M P := pg_Ev.of (by decide) (by first | decide | exact Nat.le_of_ble_eq_true rfl) h
theorem sX5_windAt_0 {v0 : Nat} {v1 : Int32} 
    (h0 : pg_isX5 Λ v0)
    (b0 : (1 ≤ (M.1 v0 12)) → ¬ (M.1 v0 12) = 0)
    (b1 : (1 ≤ (M.1 v0 12)) → vp_in (pg_fm v1 (M.1 v0 12)) 12)
    (k0 : (1 ≤ (M.1 v0 12)) → P (some (.int (M.1 (v0 + 8) (pg_fm v1 (M.1 v0 12)).toNatClampNeg))) M)
    (k1 : (¬ 1 ≤ (M.1 v0 12)) → P (some (.int 0)) M) :
    pg_At S Λ YX5_windAt (d + 1) 0 [(0, .ref v0), (1, .int v1)] [] M P := by
  refine pg_aload_n (pc := 0) (i := 0) (j := 0) (x := v0) dX5_windAt_0 rfl rfl ?_
  refine gfX5_63 (pc := 1) rfl h0 dX5_windAt_1 ?_
  refine pg_iconst (pc := 4) (v := 1) dX5_windAt_4 (by decide) ?_
  refine pg_icmp_ge (pc := 5) (tgt := 12) dX5_windAt_5 (by decide) (fun c0 => ?_) (fun c0 => ?_)
  · skip
    refine pg_aload_n (pc := 12) (i := 0) (j := 0) (x := v0) dX5_windAt_12 rfl rfl ?_
    refine gfX5_34 (pc := 13) rfl h0 dX5_windAt_13 ?_
    refine pg_iload_n (pc := 16) (i := 1) (j := 1) (x := v1) dX5_windAt_16 rfl rfl ?_
    refine pg_aload_n (pc := 17) (i := 0) (j := 0) (x := v0) dX5_windAt_17 rfl rfl ?_
    refine gfX5_63 (pc := 18) rfl h0 dX5_windAt_18 ?_
    refine pg_jfm (pc := 21) (st := [.ref (v0 + 8)]) lkX5_95 (b0 c0) (Nat.le_of_ble_eq_true rfl) dX5_windAt_21 ?_
    refine pg_iald (pc := 24) h0.2.2.2.2.2.2.2.2.1 (b1 c0) dX5_windAt_24 ?_
    exact pg_iret (pc := 25) rfl dX5_windAt_25 (k0 c0)
  · skip
    refine pg_iconst (pc := 8) (v := 0) dX5_windAt_8 (by decide) ?_
    refine pg_goto (pc := 9) (tgt := 25) dX5_windAt_9 (by decide) ?_
    exact pg_iret (pc := 25) rfl dX5_windAt_25 (k1 c0)
theorem oX5_windAt {d : Nat} {v0 : Nat} {v1 : Int32} (h : pg_At S Λ YX5_windAt d 0 [(0, .ref v0), (1, .int v1)] [] M P) : pg_Ev S Λ YX5_windAt d [.ref v0, .int v1] M P := pg_Ev.of (by decide) (by first | decide | exact Nat.le_of_ble_eq_true rfl) h
theorem sX5_pullOn_0 {v0 : Nat} {v1 : Int32} {v2 : Int32} {v3 : Int32} {Q0 : Int32 → pg_M → Prop} {Q1 : Int32 → pg_M → Prop}
    (h0 : pg_isX5 Λ v0)
    (e0 : pg_Ev S Λ YX5_massOf d [.ref v0, .int v1, .int v2] M (fun r M' => ∃ x, r = some (.int x) ∧ Q0 x M'))
    (b0 : ∀ x1 M1, Q0 x1 M1 → vp_in v1 6)
    (e1 : ∀ x1 M1, Q0 x1 M1 → pg_Ev S Λ YX8_value d [.ref (v0 + 9), .int v3, .int x1, .int (M1.1 (v0 + 3) v1.toNatClampNeg)] M1 (fun r M' => ∃ x, r = some (.int x) ∧ Q1 x M'))
    (k0 : ∀ x1 M1, Q0 x1 M1 → ∀ x2 M2, Q1 x2 M2 → (¬ (M2.1 (v0 + 2) v1.toNatClampNeg) = 2) → P (some (.int (pg_max 0 (pg_min 99 x2)))) M2)
    (k1 : ∀ x1 M1, Q0 x1 M1 → ∀ x2 M2, Q1 x2 M2 → ((M2.1 (v0 + 2) v1.toNatClampNeg) = 2) → P (some (.int (2 * (pg_max 0 (pg_min 99 x2))))) M2) :
    pg_At S Λ YX5_pullOn (d + 1) 0 [(0, .ref v0), (1, .int v1), (2, .int v2), (3, .int v3)] [] M P := by
  refine pg_aload_n (pc := 0) (i := 0) (j := 0) (x := v0) dX5_pullOn_0 rfl rfl ?_
  refine gfX5_40 (pc := 1) rfl h0 dX5_pullOn_1 ?_
  refine pg_iload_n (pc := 4) (i := 3) (j := 3) (x := v3) dX5_pullOn_4 rfl rfl ?_
  refine pg_aload_n (pc := 5) (i := 0) (j := 0) (x := v0) dX5_pullOn_5 rfl rfl ?_
  refine pg_iload_n (pc := 6) (i := 1) (j := 1) (x := v1) dX5_pullOn_6 rfl rfl ?_
  refine pg_iload_n (pc := 7) (i := 2) (j := 2) (x := v2) dX5_pullOn_7 rfl rfl ?_
  refine pg_callV (pc := 8) (As := [.int v1, .int v2]) (st := [.int v3, .ref (v0 + 9)]) okX5_massOf lkX5_98 rfl h0.1 rfl (Nat.le_refl _) (Nat.le_of_ble_eq_true rfl) e0 dX5_pullOn_8 (fun r1 M1 w1 => ?_)
  obtain ⟨x1, rfl, w1⟩ := w1
  refine pg_aload_n (pc := 11) (i := 0) (j := 0) (x := v0) dX5_pullOn_11 rfl rfl ?_
  refine gfX5_19 (pc := 12) rfl h0 dX5_pullOn_12 ?_
  refine pg_iload_n (pc := 15) (i := 1) (j := 1) (x := v1) dX5_pullOn_15 rfl rfl ?_
  refine pg_iald (pc := 16) h0.2.2.2.1 (b0 x1 M1 w1) dX5_pullOn_16 ?_
  refine pg_callV (pc := 17) (As := [.int v3, .int x1, .int (M1.1 (v0 + 3) v1.toNatClampNeg)]) (st := []) okX8_value lkX5_101 rfl (pg_isX5.r8 h0).1 rfl (Nat.le_refl _) (Nat.le_of_ble_eq_true rfl) (e1 x1 M1 w1) dX5_pullOn_17 (fun r2 M2 w2 => ?_)
  obtain ⟨x2, rfl, w2⟩ := w2
  refine pg_istore (pc := 20) (i := 4) (ls' := [(4, .int x2), (0, .ref v0), (1, .int v1), (2, .int v2), (3, .int v3)]) dX5_pullOn_20 (by decide) rfl ?_
  refine pg_iconst (pc := 22) (v := 0) dX5_pullOn_22 (by decide) ?_
  refine pg_bipush (pc := 23) (v := 99) dX5_pullOn_23 (by decide) ?_
  refine pg_iload (pc := 25) (i := 4) (j := 0) (x := x2) dX5_pullOn_25 rfl ?_
  refine pg_jmin (pc := 27) (st := [.int 0]) lkX5_80 (Nat.le_of_ble_eq_true rfl) dX5_pullOn_27 ?_
  refine pg_jmax (pc := 30) (st := []) lkX5_86 (Nat.le_of_ble_eq_true rfl) dX5_pullOn_30 ?_
  refine pg_istore (pc := 33) (i := 4) (ls' := [(4, .int (pg_max 0 (pg_min 99 x2))), (0, .ref v0), (1, .int v1), (2, .int v2), (3, .int v3)]) dX5_pullOn_33 (by decide) rfl ?_
  refine pg_aload_n (pc := 35) (i := 0) (j := 1) (x := v0) dX5_pullOn_35 rfl rfl ?_
  refine gfX5_15 (pc := 36) rfl h0 dX5_pullOn_36 ?_
  refine pg_iload_n (pc := 39) (i := 1) (j := 2) (x := v1) dX5_pullOn_39 rfl rfl ?_
  refine pg_iald (pc := 40) h0.2.2.1 (b0 x1 M1 w1) dX5_pullOn_40 ?_
  refine pg_iconst (pc := 41) (v := 2) dX5_pullOn_41 (by decide) ?_
  refine pg_icmp_ne (pc := 42) (tgt := 52) dX5_pullOn_42 (by decide) (fun c0 => ?_) (fun c0 => ?_)
  · skip
    refine pg_iload (pc := 52) (i := 4) (j := 0) (x := (pg_max 0 (pg_min 99 x2))) dX5_pullOn_52 rfl ?_
    exact pg_iret (pc := 54) rfl dX5_pullOn_54 (k0 x1 M1 w1 x2 M2 w2 c0)
  · skip
    refine pg_iconst (pc := 45) (v := 2) dX5_pullOn_45 (by decide) ?_
    refine pg_iload (pc := 46) (i := 4) (j := 0) (x := (pg_max 0 (pg_min 99 x2))) dX5_pullOn_46 rfl ?_
    refine pg_imul (pc := 48) dX5_pullOn_48 ?_
    refine pg_goto (pc := 49) (tgt := 54) dX5_pullOn_49 (by decide) ?_
    exact pg_iret (pc := 54) rfl dX5_pullOn_54 (k1 x1 M1 w1 x2 M2 w2 c0)
theorem oX5_pullOn {d : Nat} {v0 : Nat} {v1 : Int32} {v2 : Int32} {v3 : Int32} (h : pg_At S Λ YX5_pullOn d 0 [(0, .ref v0), (1, .int v1), (2, .int v2), (3, .int v3)] [] M P) : pg_Ev S Λ YX5_pullOn d [.ref v0, .int v1, .int v2, .int v3] M P := pg_Ev.of (by decide) (by first | decide | exact Nat.le_of_ble_eq_true rfl) h
theorem sX5_wetAfter_0 {v0 : Nat} {v1 : Int32} {v2 : Int32} {v3 : Int32} {Q0 : Int32 → pg_M → Prop} {Q1 : Int32 → pg_M → Prop}
    (h0 : pg_isX5 Λ v0)
    (e0 : pg_Ev S Λ YX5_massOf d [.ref v0, .int v1, .int v2] M (fun r M' => ∃ x, r = some (.int x) ∧ Q0 x M'))
    (b0 : ∀ x1 M1, Q0 x1 M1 → vp_in v1 6)
    (e1 : ∀ x1 M1, Q0 x1 M1 → pg_Ev S Λ YX8_value d [.ref (v0 + 12), .int v3, .int x1, .int (M1.1 (v0 + 3) v1.toNatClampNeg)] M1 (fun r M' => ∃ x, r = some (.int x) ∧ Q1 x M'))
    (k0 : ∀ x1 M1, Q0 x1 M1 → ∀ x2 M2, Q1 x2 M2 → P (some (.int (pg_max 0 (v2 - (pg_max 0 (pg_min 9 x2)))))) M2) :
    pg_At S Λ YX5_wetAfter (d + 1) 0 [(0, .ref v0), (1, .int v1), (2, .int v2), (3, .int v3)] [] M P := by
  refine pg_aload_n (pc := 0) (i := 0) (j := 0) (x := v0) dX5_wetAfter_0 rfl rfl ?_
  refine gfX5_44 (pc := 1) rfl h0 dX5_wetAfter_1 ?_
  refine pg_iload_n (pc := 4) (i := 3) (j := 3) (x := v3) dX5_wetAfter_4 rfl rfl ?_
  refine pg_aload_n (pc := 5) (i := 0) (j := 0) (x := v0) dX5_wetAfter_5 rfl rfl ?_
  refine pg_iload_n (pc := 6) (i := 1) (j := 1) (x := v1) dX5_wetAfter_6 rfl rfl ?_
  refine pg_iload_n (pc := 7) (i := 2) (j := 2) (x := v2) dX5_wetAfter_7 rfl rfl ?_
  refine pg_callV (pc := 8) (As := [.int v1, .int v2]) (st := [.int v3, .ref (v0 + 12)]) okX5_massOf lkX5_98 rfl h0.1 rfl (Nat.le_refl _) (Nat.le_of_ble_eq_true rfl) e0 dX5_wetAfter_8 (fun r1 M1 w1 => ?_)
  obtain ⟨x1, rfl, w1⟩ := w1
  refine pg_aload_n (pc := 11) (i := 0) (j := 0) (x := v0) dX5_wetAfter_11 rfl rfl ?_
  refine gfX5_19 (pc := 12) rfl h0 dX5_wetAfter_12 ?_
  refine pg_iload_n (pc := 15) (i := 1) (j := 1) (x := v1) dX5_wetAfter_15 rfl rfl ?_
  refine pg_iald (pc := 16) h0.2.2.2.1 (b0 x1 M1 w1) dX5_wetAfter_16 ?_
  refine pg_callV (pc := 17) (As := [.int v3, .int x1, .int (M1.1 (v0 + 3) v1.toNatClampNeg)]) (st := []) okX8_value lkX5_101 rfl (pg_isX5.r9 h0).1 rfl (Nat.le_refl _) (Nat.le_of_ble_eq_true rfl) (e1 x1 M1 w1) dX5_wetAfter_17 (fun r2 M2 w2 => ?_)
  obtain ⟨x2, rfl, w2⟩ := w2
  refine pg_istore (pc := 20) (i := 4) (ls' := [(4, .int x2), (0, .ref v0), (1, .int v1), (2, .int v2), (3, .int v3)]) dX5_wetAfter_20 (by decide) rfl ?_
  refine pg_iconst (pc := 22) (v := 0) dX5_wetAfter_22 (by decide) ?_
  refine pg_iload_n (pc := 23) (i := 2) (j := 3) (x := v2) dX5_wetAfter_23 rfl rfl ?_
  refine pg_iconst (pc := 24) (v := 0) dX5_wetAfter_24 (by decide) ?_
  refine pg_bipush (pc := 25) (v := 9) dX5_wetAfter_25 (by decide) ?_
  refine pg_iload (pc := 27) (i := 4) (j := 0) (x := x2) dX5_wetAfter_27 rfl ?_
  refine pg_jmin (pc := 29) (st := [.int 0, .int v2, .int 0]) lkX5_80 (Nat.le_of_ble_eq_true rfl) dX5_wetAfter_29 ?_
  refine pg_jmax (pc := 32) (st := [.int v2, .int 0]) lkX5_86 (Nat.le_of_ble_eq_true rfl) dX5_wetAfter_32 ?_
  refine pg_isub (pc := 35) dX5_wetAfter_35 ?_
  refine pg_jmax (pc := 36) (st := []) lkX5_86 (Nat.le_of_ble_eq_true rfl) dX5_wetAfter_36 ?_
  exact pg_iret (pc := 39) rfl dX5_wetAfter_39 (k0 x1 M1 w1 x2 M2 w2)
theorem oX5_wetAfter {d : Nat} {v0 : Nat} {v1 : Int32} {v2 : Int32} {v3 : Int32} (h : pg_At S Λ YX5_wetAfter d 0 [(0, .ref v0), (1, .int v1), (2, .int v2), (3, .int v3)] [] M P) : pg_Ev S Λ YX5_wetAfter d [.ref v0, .int v1, .int v2, .int v3] M P := pg_Ev.of (by decide) (by first | decide | exact Nat.le_of_ble_eq_true rfl) h
theorem sX5_massOf_0 {v0 : Nat} {v1 : Int32} {v2 : Int32} 
    (h0 : pg_isX5 Λ v0)
    (b0 : vp_in v1 6)
    (k0 : (¬ (M.1 (v0 + 2) v1.toNatClampNeg) = 3) → P (some (.int ((M.1 (v0 + 4) v1.toNatClampNeg) + v2))) M)
    (k1 : ((M.1 (v0 + 2) v1.toNatClampNeg) = 3) → P (some (.int ((M.1 (v0 + 4) v1.toNatClampNeg) + (2 * v2)))) M) :
    pg_At S Λ YX5_massOf d 0 [(0, .ref v0), (1, .int v1), (2, .int v2)] [] M P := by
  refine pg_aload_n (pc := 0) (i := 0) (j := 0) (x := v0) dX5_massOf_0 rfl rfl ?_
  refine gfX5_22 (pc := 1) rfl h0 dX5_massOf_1 ?_
  refine pg_iload_n (pc := 4) (i := 1) (j := 1) (x := v1) dX5_massOf_4 rfl rfl ?_
  refine pg_iald (pc := 5) h0.2.2.2.2.1 b0 dX5_massOf_5 ?_
  refine pg_aload_n (pc := 6) (i := 0) (j := 0) (x := v0) dX5_massOf_6 rfl rfl ?_
  refine gfX5_15 (pc := 7) rfl h0 dX5_massOf_7 ?_
  refine pg_iload_n (pc := 10) (i := 1) (j := 1) (x := v1) dX5_massOf_10 rfl rfl ?_
  refine pg_iald (pc := 11) h0.2.2.1 b0 dX5_massOf_11 ?_
  refine pg_iconst (pc := 12) (v := 3) dX5_massOf_12 (by decide) ?_
  refine pg_icmp_ne (pc := 13) (tgt := 22) dX5_massOf_13 (by decide) (fun c0 => ?_) (fun c0 => ?_)
  · skip
    refine pg_iload_n (pc := 22) (i := 2) (j := 2) (x := v2) dX5_massOf_22 rfl rfl ?_
    refine pg_iadd (pc := 23) dX5_massOf_23 ?_
    exact pg_iret (pc := 24) rfl dX5_massOf_24 (k0 c0)
  · skip
    refine pg_iconst (pc := 16) (v := 2) dX5_massOf_16 (by decide) ?_
    refine pg_iload_n (pc := 17) (i := 2) (j := 2) (x := v2) dX5_massOf_17 rfl rfl ?_
    refine pg_imul (pc := 18) dX5_massOf_18 ?_
    refine pg_goto (pc := 19) (tgt := 23) dX5_massOf_19 (by decide) ?_
    refine pg_iadd (pc := 23) dX5_massOf_23 ?_
    exact pg_iret (pc := 24) rfl dX5_massOf_24 (k1 c0)
theorem oX5_massOf {d : Nat} {v0 : Nat} {v1 : Int32} {v2 : Int32} (h : pg_At S Λ YX5_massOf d 0 [(0, .ref v0), (1, .int v1), (2, .int v2)] [] M P) : pg_Ev S Λ YX5_massOf d [.ref v0, .int v1, .int v2] M P := pg_Ev.of (by decide) (by first | decide | exact Nat.le_of_ble_eq_true rfl) h
theorem sX8_clear_0 {v0 : Nat} 
    (h0 : pg_isX8 Λ v0)
    (k0 : P none (pg_si M v0 2 0)) :
    pg_At S Λ YX8_clear d 0 [(0, .ref v0)] [] M P := by
  refine pg_aload_n (pc := 0) (i := 0) (j := 0) (x := v0) dX8_clear_0 rfl rfl ?_
  refine pg_iconst (pc := 1) (v := 0) dX8_clear_1 (by decide) ?_
  refine pfX8_18 (pc := 2) rfl h0 dX8_clear_2 ?_
  exact pg_vret (pc := 5) rfl dX8_clear_5 k0
theorem oX8_clear {d : Nat} {v0 : Nat} (h : pg_At S Λ YX8_clear d 0 [(0, .ref v0)] [] M P) : pg_Ev S Λ YX8_clear d [.ref v0] M P := pg_Ev.of (by decide) (by first | decide | exact Nat.le_of_ble_eq_true rfl) h
theorem sX8_add_0 {v0 : Nat} {v1 : Int32} 
    (h0 : pg_isX8 Λ v0)
    (k0 : ((Int32.ofNat 1000) ≤ (M.1 v0 2)) → P none M)
    (b0 : (¬ (Int32.ofNat 1000) ≤ (M.1 v0 2)) → vp_in (M.1 v0 2) 1000)
    (k1 : (¬ (Int32.ofNat 1000) ≤ (M.1 v0 2)) → ∀ N1, N1 = pg_si (pg_si M (v0 + 1) (M.1 v0 2).toNatClampNeg v1) v0 2 (((pg_si M (v0 + 1) (M.1 v0 2).toNatClampNeg v1).1 v0 2) + 1) → P none N1) :
    pg_At S Λ YX8_add d 0 [(0, .ref v0), (1, .int v1)] [] M P := by
  refine pg_aload_n (pc := 0) (i := 0) (j := 0) (x := v0) dX8_add_0 rfl rfl ?_
  refine gfX8_18 (pc := 1) rfl h0 dX8_add_1 ?_
  refine pg_aload_n (pc := 4) (i := 0) (j := 0) (x := v0) dX8_add_4 rfl rfl ?_
  refine gfX8_9 (pc := 5) rfl h0 dX8_add_5 ?_
  refine pg_alen (pc := 8) h0.2.1 0 rfl dX8_add_8 ?_
  refine pg_icmp_ge (pc := 9) (tgt := 32) dX8_add_9 (by decide) (fun c0 => ?_) (fun c0 => ?_)
  · skip
    exact pg_vret (pc := 32) rfl dX8_add_32 (k0 c0)
  · skip
    refine pg_aload_n (pc := 12) (i := 0) (j := 0) (x := v0) dX8_add_12 rfl rfl ?_
    refine gfX8_9 (pc := 13) rfl h0 dX8_add_13 ?_
    refine pg_aload_n (pc := 16) (i := 0) (j := 0) (x := v0) dX8_add_16 rfl rfl ?_
    refine gfX8_18 (pc := 17) rfl h0 dX8_add_17 ?_
    refine pg_iload_n (pc := 20) (i := 1) (j := 1) (x := v1) dX8_add_20 rfl rfl ?_
    refine pg_iast (pc := 21) h0.2.1 (b0 c0) dX8_add_21 ?_
    refine pg_aload_n (pc := 22) (i := 0) (j := 0) (x := v0) dX8_add_22 rfl rfl ?_
    refine pg_dup (pc := 23) dX8_add_23 rfl ?_
    refine gfX8_18 (pc := 24) rfl h0 dX8_add_24 ?_
    refine pg_iconst (pc := 27) (v := 1) dX8_add_27 (by decide) ?_
    refine pg_iadd (pc := 28) dX8_add_28 ?_
    refine pfX8_18 (pc := 29) rfl h0 dX8_add_29 ?_
    refine pg_named (fun N1 u1 => ?_)
    exact pg_vret (pc := 32) rfl dX8_add_32 (k1 c0 N1 u1)
theorem oX8_add {d : Nat} {v0 : Nat} {v1 : Int32} (h : pg_At S Λ YX8_add d 0 [(0, .ref v0), (1, .int v1)] [] M P) : pg_Ev S Λ YX8_add d [.ref v0, .int v1] M P := pg_Ev.of (by decide) (by first | decide | exact Nat.le_of_ble_eq_true rfl) h
theorem sX8_value_0 {v0 : Nat} {v1 : Int32} {v2 : Int32} {v3 : Int32} 
    (k0 : pg_At S Λ YX8_value (d + 1) 6 [(0, .ref v0), (1, .int v1), (2, .int v2), (3, .int v3), (4, .int 0), (5, .int 0)] [] M P) :
    pg_At S Λ YX8_value (d + 1) 0 [(0, .ref v0), (1, .int v1), (2, .int v2), (3, .int v3)] [] M P := by
  refine pg_iconst (pc := 0) (v := 0) dX8_value_0 (by decide) ?_
  refine pg_istore (pc := 1) (i := 4) (ls' := [(4, .int 0), (0, .ref v0), (1, .int v1), (2, .int v2), (3, .int v3)]) dX8_value_1 (by decide) rfl ?_
  refine pg_iconst (pc := 3) (v := 0) dX8_value_3 (by decide) ?_
  refine pg_istore (pc := 4) (i := 5) (ls' := [(5, .int 0), (4, .int 0), (0, .ref v0), (1, .int v1), (2, .int v2), (3, .int v3)]) dX8_value_4 (by decide) rfl ?_
  refine pg_drop (ks := [2, 3, 4, 5, 1, 0]) (ls' := [(0, .ref v0), (1, .int v1), (2, .int v2), (3, .int v3), (4, .int 0), (5, .int 0)]) rfl ?_
  exact k0
theorem sX8_value_6 {v0 : Nat} {v1 : Int32} {v2 : Int32} {v3 : Int32} {v4 : Int32} {v5 : Int32} {Q0 : Int32 → pg_M → Prop} {Q1 : Int32 → pg_M → Prop}
    (h0 : pg_isX8 Λ v0)
    (k0 : ((M.1 v0 2) ≤ v5) → (v4 ≤ 0) → P (some (.int 0)) M)
    (k1 : ((M.1 v0 2) ≤ v5) → (¬ v4 ≤ 0) → P (some (.int (M.1 (v0 + 2) (0 : Int32).toNatClampNeg))) M)
    (b0 : (¬ (M.1 v0 2) ≤ v5) → vp_in v5 1000)
    (k2 : (¬ (M.1 v0 2) ≤ v5) → ((M.1 (v0 + 1) v5.toNatClampNeg) ≤ (-4)) → (¬ (M.1 (v0 + 1) v5.toNatClampNeg) = (-4)) → (v4 ≤ 1) → pg_At S Λ YX8_value (d + 1) 6 [(0, .ref v0), (1, .int v1), (2, .int v2), (3, .int v3), (4, .int v4), (5, .int (v5 + 1))] [] M P)
    (b1 : (¬ (M.1 v0 2) ≤ v5) → ((M.1 (v0 + 1) v5.toNatClampNeg) ≤ (-4)) → (¬ (M.1 (v0 + 1) v5.toNatClampNeg) = (-4)) → (¬ v4 ≤ 1) → vp_in ((v4 + (-1)) - 1) 32)
    (b2 : (¬ (M.1 v0 2) ≤ v5) → ((M.1 (v0 + 1) v5.toNatClampNeg) ≤ (-4)) → (¬ (M.1 (v0 + 1) v5.toNatClampNeg) = (-4)) → (¬ v4 ≤ 1) → vp_in (v4 + (-1)) 32)
    (e0 : (¬ (M.1 v0 2) ≤ v5) → ((M.1 (v0 + 1) v5.toNatClampNeg) ≤ (-4)) → (¬ (M.1 (v0 + 1) v5.toNatClampNeg) = (-4)) → (¬ v4 ≤ 1) → pg_Ev S Λ YX8_joined d [.int (M.1 (v0 + 1) v5.toNatClampNeg), .int (M.1 (v0 + 2) ((v4 + (-1)) - 1).toNatClampNeg), .int (M.1 (v0 + 2) (v4 + (-1)).toNatClampNeg)] M (fun r M' => ∃ x, r = some (.int x) ∧ Q0 x M'))
    (k3 : (¬ (M.1 v0 2) ≤ v5) → ((M.1 (v0 + 1) v5.toNatClampNeg) ≤ (-4)) → (¬ (M.1 (v0 + 1) v5.toNatClampNeg) = (-4)) → (¬ v4 ≤ 1) → ∀ x1 M1, Q0 x1 M1 → pg_At S Λ YX8_value (d + 1) 6 [(0, .ref v0), (1, .int v1), (2, .int v2), (3, .int v3), (4, .int (v4 + (-1))), (5, .int (v5 + 1))] [] (pg_si M1 (v0 + 2) ((v4 + (-1)) - 1).toNatClampNeg x1) P)
    (k4 : (¬ (M.1 v0 2) ≤ v5) → ((M.1 (v0 + 1) v5.toNatClampNeg) ≤ (-4)) → ((M.1 (v0 + 1) v5.toNatClampNeg) = (-4)) → (v4 ≤ 0) → pg_At S Λ YX8_value (d + 1) 6 [(0, .ref v0), (1, .int v1), (2, .int v2), (3, .int v3), (4, .int v4), (5, .int (v5 + 1))] [] M P)
    (b3 : (¬ (M.1 v0 2) ≤ v5) → ((M.1 (v0 + 1) v5.toNatClampNeg) ≤ (-4)) → ((M.1 (v0 + 1) v5.toNatClampNeg) = (-4)) → (¬ v4 ≤ 0) → vp_in (v4 - 1) 32)
    (k5 : (¬ (M.1 v0 2) ≤ v5) → ((M.1 (v0 + 1) v5.toNatClampNeg) ≤ (-4)) → ((M.1 (v0 + 1) v5.toNatClampNeg) = (-4)) → (¬ v4 ≤ 0) → (¬ (M.1 (v0 + 2) (v4 - 1).toNatClampNeg) = 0) → pg_At S Λ YX8_value (d + 1) 6 [(0, .ref v0), (1, .int v1), (2, .int v2), (3, .int v3), (4, .int v4), (5, .int (v5 + 1))] [] (pg_si M (v0 + 2) (v4 - 1).toNatClampNeg 0) P)
    (k6 : (¬ (M.1 v0 2) ≤ v5) → ((M.1 (v0 + 1) v5.toNatClampNeg) ≤ (-4)) → ((M.1 (v0 + 1) v5.toNatClampNeg) = (-4)) → (¬ v4 ≤ 0) → ((M.1 (v0 + 2) (v4 - 1).toNatClampNeg) = 0) → pg_At S Λ YX8_value (d + 1) 6 [(0, .ref v0), (1, .int v1), (2, .int v2), (3, .int v3), (4, .int v4), (5, .int (v5 + 1))] [] (pg_si M (v0 + 2) (v4 - 1).toNatClampNeg 1) P)
    (k7 : (¬ (M.1 v0 2) ≤ v5) → (¬ (M.1 (v0 + 1) v5.toNatClampNeg) ≤ (-4)) → ((Int32.ofNat 32) ≤ v4) → pg_At S Λ YX8_value (d + 1) 6 [(0, .ref v0), (1, .int v1), (2, .int v2), (3, .int v3), (4, .int v4), (5, .int (v5 + 1))] [] M P)
    (e1 : (¬ (M.1 v0 2) ≤ v5) → (¬ (M.1 (v0 + 1) v5.toNatClampNeg) ≤ (-4)) → (¬ (Int32.ofNat 32) ≤ v4) → ((M.1 (v0 + 1) v5.toNatClampNeg) < 0) → pg_Ev S Λ YX8_fact d [.int (M.1 (v0 + 1) v5.toNatClampNeg), .int v1, .int v2, .int v3] M (fun r M' => ∃ x, r = some (.int x) ∧ Q1 x M'))
    (b4 : (¬ (M.1 v0 2) ≤ v5) → (¬ (M.1 (v0 + 1) v5.toNatClampNeg) ≤ (-4)) → (¬ (Int32.ofNat 32) ≤ v4) → ((M.1 (v0 + 1) v5.toNatClampNeg) < 0) → ∀ x2 M2, Q1 x2 M2 → vp_in v4 32)
    (k8 : (¬ (M.1 v0 2) ≤ v5) → (¬ (M.1 (v0 + 1) v5.toNatClampNeg) ≤ (-4)) → (¬ (Int32.ofNat 32) ≤ v4) → ((M.1 (v0 + 1) v5.toNatClampNeg) < 0) → ∀ x2 M2, Q1 x2 M2 → pg_At S Λ YX8_value (d + 1) 6 [(0, .ref v0), (1, .int v1), (2, .int v2), (3, .int v3), (4, .int (v4 + 1)), (5, .int (v5 + 1))] [] (pg_si M2 (v0 + 2) v4.toNatClampNeg x2) P)
    (b5 : (¬ (M.1 v0 2) ≤ v5) → (¬ (M.1 (v0 + 1) v5.toNatClampNeg) ≤ (-4)) → (¬ (Int32.ofNat 32) ≤ v4) → (¬ (M.1 (v0 + 1) v5.toNatClampNeg) < 0) → vp_in v4 32)
    (k9 : (¬ (M.1 v0 2) ≤ v5) → (¬ (M.1 (v0 + 1) v5.toNatClampNeg) ≤ (-4)) → (¬ (Int32.ofNat 32) ≤ v4) → (¬ (M.1 (v0 + 1) v5.toNatClampNeg) < 0) → pg_At S Λ YX8_value (d + 1) 6 [(0, .ref v0), (1, .int v1), (2, .int v2), (3, .int v3), (4, .int (v4 + 1)), (5, .int (v5 + 1))] [] (pg_si M (v0 + 2) v4.toNatClampNeg (M.1 (v0 + 1) v5.toNatClampNeg)) P) :
    pg_At S Λ YX8_value (d + 1) 6 [(0, .ref v0), (1, .int v1), (2, .int v2), (3, .int v3), (4, .int v4), (5, .int v5)] [] M P := by
  refine pg_iload (pc := 6) (i := 5) (j := 5) (x := v5) dX8_value_6 rfl ?_
  refine pg_aload_n (pc := 8) (i := 0) (j := 0) (x := v0) dX8_value_8 rfl rfl ?_
  refine gfX8_18 (pc := 9) rfl h0 dX8_value_9 ?_
  refine pg_icmp_ge (pc := 12) (tgt := 158) dX8_value_12 (by decide) (fun c0 => ?_) (fun c0 => ?_)
  · skip
    refine pg_iload (pc := 158) (i := 4) (j := 4) (x := v4) dX8_value_158 rfl ?_
    refine pg_if_le (pc := 160) (tgt := 172) dX8_value_160 (by decide) (fun c1 => ?_) (fun c1 => ?_)
    · skip
      refine pg_iconst (pc := 172) (v := 0) dX8_value_172 (by decide) ?_
      exact pg_iret (pc := 173) rfl dX8_value_173 (k0 c0 c1)
    · skip
      refine pg_aload_n (pc := 163) (i := 0) (j := 0) (x := v0) dX8_value_163 rfl rfl ?_
      refine gfX8_15 (pc := 164) rfl h0 dX8_value_164 ?_
      refine pg_iconst (pc := 167) (v := 0) dX8_value_167 (by decide) ?_
      refine pg_iald (pc := 168) h0.2.2 (by unfold vp_in; decide) dX8_value_168 ?_
      refine pg_goto (pc := 169) (tgt := 173) dX8_value_169 (by decide) ?_
      exact pg_iret (pc := 173) rfl dX8_value_173 (k1 c0 c1)
  · skip
    refine pg_aload_n (pc := 15) (i := 0) (j := 0) (x := v0) dX8_value_15 rfl rfl ?_
    refine gfX8_9 (pc := 16) rfl h0 dX8_value_16 ?_
    refine pg_iload (pc := 19) (i := 5) (j := 5) (x := v5) dX8_value_19 rfl ?_
    refine pg_iald (pc := 21) h0.2.1 (b0 c0) dX8_value_21 ?_
    refine pg_istore (pc := 22) (i := 6) (ls' := [(6, .int (M.1 (v0 + 1) v5.toNatClampNeg)), (0, .ref v0), (1, .int v1), (2, .int v2), (3, .int v3), (4, .int v4), (5, .int v5)]) dX8_value_22 (by decide) rfl ?_
    refine pg_iload (pc := 24) (i := 6) (j := 0) (x := (M.1 (v0 + 1) v5.toNatClampNeg)) dX8_value_24 rfl ?_
    refine pg_bipush (pc := 26) (v := (-4)) dX8_value_26 (by decide) ?_
    refine pg_icmp_le (pc := 28) (tgt := 72) dX8_value_28 (by decide) (fun c1 => ?_) (fun c1 => ?_)
    · skip
      refine pg_iload (pc := 72) (i := 6) (j := 0) (x := (M.1 (v0 + 1) v5.toNatClampNeg)) dX8_value_72 rfl ?_
      refine pg_bipush (pc := 74) (v := (-4)) dX8_value_74 (by decide) ?_
      refine pg_icmp_ne (pc := 76) (tgt := 113) dX8_value_76 (by decide) (fun c2 => ?_) (fun c2 => ?_)
      · skip
        refine pg_iload (pc := 113) (i := 4) (j := 5) (x := v4) dX8_value_113 rfl ?_
        refine pg_iconst (pc := 115) (v := 1) dX8_value_115 (by decide) ?_
        refine pg_icmp_le (pc := 116) (tgt := 152) dX8_value_116 (by decide) (fun c3 => ?_) (fun c3 => ?_)
        · skip
          refine pg_iinc (pc := 152) (i := 5) (j := 6) (x := v5) (v := v5 + 1) (ls' := [(5, .int (v5 + 1)), (6, .int (M.1 (v0 + 1) v5.toNatClampNeg)), (0, .ref v0), (1, .int v1), (2, .int v2), (3, .int v3), (4, .int v4)]) dX8_value_152 rfl rfl (by decide) rfl ?_
          refine pg_goto (pc := 155) (tgt := 6) dX8_value_155 (by decide) ?_
          refine pg_drop (ks := [2, 3, 4, 5, 6, 0]) (ls' := [(0, .ref v0), (1, .int v1), (2, .int v2), (3, .int v3), (4, .int v4), (5, .int (v5 + 1))]) rfl ?_
          exact k2 c0 c1 c2 c3
        · skip
          refine pg_iinc (pc := 119) (i := 4) (j := 5) (x := v4) (v := v4 + (-1)) (ls' := [(4, .int (v4 + (-1))), (6, .int (M.1 (v0 + 1) v5.toNatClampNeg)), (0, .ref v0), (1, .int v1), (2, .int v2), (3, .int v3), (5, .int v5)]) dX8_value_119 rfl rfl (by decide) rfl ?_
          refine pg_aload_n (pc := 122) (i := 0) (j := 2) (x := v0) dX8_value_122 rfl rfl ?_
          refine gfX8_15 (pc := 123) rfl h0 dX8_value_123 ?_
          refine pg_iload (pc := 126) (i := 4) (j := 0) (x := (v4 + (-1))) dX8_value_126 rfl ?_
          refine pg_iconst (pc := 128) (v := 1) dX8_value_128 (by decide) ?_
          refine pg_isub (pc := 129) dX8_value_129 ?_
          refine pg_iload (pc := 130) (i := 6) (j := 1) (x := (M.1 (v0 + 1) v5.toNatClampNeg)) dX8_value_130 rfl ?_
          refine pg_aload_n (pc := 132) (i := 0) (j := 2) (x := v0) dX8_value_132 rfl rfl ?_
          refine gfX8_15 (pc := 133) rfl h0 dX8_value_133 ?_
          refine pg_iload (pc := 136) (i := 4) (j := 0) (x := (v4 + (-1))) dX8_value_136 rfl ?_
          refine pg_iconst (pc := 138) (v := 1) dX8_value_138 (by decide) ?_
          refine pg_isub (pc := 139) dX8_value_139 ?_
          refine pg_iald (pc := 140) h0.2.2 (b1 c0 c1 c2 c3) dX8_value_140 ?_
          refine pg_aload_n (pc := 141) (i := 0) (j := 2) (x := v0) dX8_value_141 rfl rfl ?_
          refine gfX8_15 (pc := 142) rfl h0 dX8_value_142 ?_
          refine pg_iload (pc := 145) (i := 4) (j := 0) (x := (v4 + (-1))) dX8_value_145 rfl ?_
          refine pg_iald (pc := 147) h0.2.2 (b2 c0 c1 c2 c3) dX8_value_147 ?_
          refine pg_callS (pc := 148) (As := [.int (M.1 (v0 + 1) v5.toNatClampNeg), .int (M.1 (v0 + 2) ((v4 + (-1)) - 1).toNatClampNeg), .int (M.1 (v0 + 2) (v4 + (-1)).toNatClampNeg)]) (st := [.int ((v4 + (-1)) - 1), .ref (v0 + 2)]) okX8_joined lkX8_26 rfl (Nat.le_refl _) (Nat.le_of_ble_eq_true rfl) (e0 c0 c1 c2 c3) dX8_value_148 (fun r1 M1 w1 => ?_)
          obtain ⟨x1, rfl, w1⟩ := w1
          refine pg_iast (pc := 151) h0.2.2 (b1 c0 c1 c2 c3) dX8_value_151 ?_
          refine pg_iinc (pc := 152) (i := 5) (j := 6) (x := v5) (v := v5 + 1) (ls' := [(5, .int (v5 + 1)), (4, .int (v4 + (-1))), (6, .int (M.1 (v0 + 1) v5.toNatClampNeg)), (0, .ref v0), (1, .int v1), (2, .int v2), (3, .int v3)]) dX8_value_152 rfl rfl (by decide) rfl ?_
          refine pg_goto (pc := 155) (tgt := 6) dX8_value_155 (by decide) ?_
          refine pg_drop (ks := [3, 4, 5, 6, 1, 0]) (ls' := [(0, .ref v0), (1, .int v1), (2, .int v2), (3, .int v3), (4, .int (v4 + (-1))), (5, .int (v5 + 1))]) rfl ?_
          exact k3 c0 c1 c2 c3 x1 M1 w1
      · skip
        refine pg_iload (pc := 79) (i := 4) (j := 5) (x := v4) dX8_value_79 rfl ?_
        refine pg_if_le (pc := 81) (tgt := 152) dX8_value_81 (by decide) (fun c3 => ?_) (fun c3 => ?_)
        · skip
          refine pg_iinc (pc := 152) (i := 5) (j := 6) (x := v5) (v := v5 + 1) (ls' := [(5, .int (v5 + 1)), (6, .int (M.1 (v0 + 1) v5.toNatClampNeg)), (0, .ref v0), (1, .int v1), (2, .int v2), (3, .int v3), (4, .int v4)]) dX8_value_152 rfl rfl (by decide) rfl ?_
          refine pg_goto (pc := 155) (tgt := 6) dX8_value_155 (by decide) ?_
          refine pg_drop (ks := [2, 3, 4, 5, 6, 0]) (ls' := [(0, .ref v0), (1, .int v1), (2, .int v2), (3, .int v3), (4, .int v4), (5, .int (v5 + 1))]) rfl ?_
          exact k4 c0 c1 c2 c3
        · skip
          refine pg_aload_n (pc := 84) (i := 0) (j := 1) (x := v0) dX8_value_84 rfl rfl ?_
          refine gfX8_15 (pc := 85) rfl h0 dX8_value_85 ?_
          refine pg_iload (pc := 88) (i := 4) (j := 5) (x := v4) dX8_value_88 rfl ?_
          refine pg_iconst (pc := 90) (v := 1) dX8_value_90 (by decide) ?_
          refine pg_isub (pc := 91) dX8_value_91 ?_
          refine pg_aload_n (pc := 92) (i := 0) (j := 1) (x := v0) dX8_value_92 rfl rfl ?_
          refine gfX8_15 (pc := 93) rfl h0 dX8_value_93 ?_
          refine pg_iload (pc := 96) (i := 4) (j := 5) (x := v4) dX8_value_96 rfl ?_
          refine pg_iconst (pc := 98) (v := 1) dX8_value_98 (by decide) ?_
          refine pg_isub (pc := 99) dX8_value_99 ?_
          refine pg_iald (pc := 100) h0.2.2 (b3 c0 c1 c2 c3) dX8_value_100 ?_
          refine pg_if_ne (pc := 101) (tgt := 108) dX8_value_101 (by decide) (fun c4 => ?_) (fun c4 => ?_)
          · skip
            refine pg_iconst (pc := 108) (v := 0) dX8_value_108 (by decide) ?_
            refine pg_iast (pc := 109) h0.2.2 (b3 c0 c1 c2 c3) dX8_value_109 ?_
            refine pg_goto (pc := 110) (tgt := 152) dX8_value_110 (by decide) ?_
            refine pg_iinc (pc := 152) (i := 5) (j := 6) (x := v5) (v := v5 + 1) (ls' := [(5, .int (v5 + 1)), (6, .int (M.1 (v0 + 1) v5.toNatClampNeg)), (0, .ref v0), (1, .int v1), (2, .int v2), (3, .int v3), (4, .int v4)]) dX8_value_152 rfl rfl (by decide) rfl ?_
            refine pg_goto (pc := 155) (tgt := 6) dX8_value_155 (by decide) ?_
            refine pg_drop (ks := [2, 3, 4, 5, 6, 0]) (ls' := [(0, .ref v0), (1, .int v1), (2, .int v2), (3, .int v3), (4, .int v4), (5, .int (v5 + 1))]) rfl ?_
            exact k5 c0 c1 c2 c3 c4
          · skip
            refine pg_iconst (pc := 104) (v := 1) dX8_value_104 (by decide) ?_
            refine pg_goto (pc := 105) (tgt := 109) dX8_value_105 (by decide) ?_
            refine pg_iast (pc := 109) h0.2.2 (b3 c0 c1 c2 c3) dX8_value_109 ?_
            refine pg_goto (pc := 110) (tgt := 152) dX8_value_110 (by decide) ?_
            refine pg_iinc (pc := 152) (i := 5) (j := 6) (x := v5) (v := v5 + 1) (ls' := [(5, .int (v5 + 1)), (6, .int (M.1 (v0 + 1) v5.toNatClampNeg)), (0, .ref v0), (1, .int v1), (2, .int v2), (3, .int v3), (4, .int v4)]) dX8_value_152 rfl rfl (by decide) rfl ?_
            refine pg_goto (pc := 155) (tgt := 6) dX8_value_155 (by decide) ?_
            refine pg_drop (ks := [2, 3, 4, 5, 6, 0]) (ls' := [(0, .ref v0), (1, .int v1), (2, .int v2), (3, .int v3), (4, .int v4), (5, .int (v5 + 1))]) rfl ?_
            exact k6 c0 c1 c2 c3 c4
    · skip
      refine pg_iload (pc := 31) (i := 4) (j := 5) (x := v4) dX8_value_31 rfl ?_
      refine pg_aload_n (pc := 33) (i := 0) (j := 1) (x := v0) dX8_value_33 rfl rfl ?_
      refine gfX8_15 (pc := 34) rfl h0 dX8_value_34 ?_
      refine pg_alen (pc := 37) h0.2.2 0 rfl dX8_value_37 ?_
      refine pg_icmp_ge (pc := 38) (tgt := 152) dX8_value_38 (by decide) (fun c2 => ?_) (fun c2 => ?_)
      · skip
        refine pg_iinc (pc := 152) (i := 5) (j := 6) (x := v5) (v := v5 + 1) (ls' := [(5, .int (v5 + 1)), (6, .int (M.1 (v0 + 1) v5.toNatClampNeg)), (0, .ref v0), (1, .int v1), (2, .int v2), (3, .int v3), (4, .int v4)]) dX8_value_152 rfl rfl (by decide) rfl ?_
        refine pg_goto (pc := 155) (tgt := 6) dX8_value_155 (by decide) ?_
        refine pg_drop (ks := [2, 3, 4, 5, 6, 0]) (ls' := [(0, .ref v0), (1, .int v1), (2, .int v2), (3, .int v3), (4, .int v4), (5, .int (v5 + 1))]) rfl ?_
        exact k7 c0 c1 c2
      · skip
        refine pg_aload_n (pc := 41) (i := 0) (j := 1) (x := v0) dX8_value_41 rfl rfl ?_
        refine gfX8_15 (pc := 42) rfl h0 dX8_value_42 ?_
        refine pg_iload (pc := 45) (i := 4) (j := 5) (x := v4) dX8_value_45 rfl ?_
        refine pg_iload (pc := 47) (i := 6) (j := 0) (x := (M.1 (v0 + 1) v5.toNatClampNeg)) dX8_value_47 rfl ?_
        refine pg_if_lt (pc := 49) (tgt := 57) dX8_value_49 (by decide) (fun c3 => ?_) (fun c3 => ?_)
        · skip
          refine pg_iload (pc := 57) (i := 6) (j := 0) (x := (M.1 (v0 + 1) v5.toNatClampNeg)) dX8_value_57 rfl ?_
          refine pg_iload_n (pc := 59) (i := 1) (j := 2) (x := v1) dX8_value_59 rfl rfl ?_
          refine pg_iload_n (pc := 60) (i := 2) (j := 3) (x := v2) dX8_value_60 rfl rfl ?_
          refine pg_iload_n (pc := 61) (i := 3) (j := 4) (x := v3) dX8_value_61 rfl rfl ?_
          refine pg_callS (pc := 62) (As := [.int (M.1 (v0 + 1) v5.toNatClampNeg), .int v1, .int v2, .int v3]) (st := [.int v4, .ref (v0 + 2)]) okX8_fact lkX8_22 rfl (Nat.le_refl _) (Nat.le_of_ble_eq_true rfl) (e1 c0 c1 c2 c3) dX8_value_62 (fun r2 M2 w2 => ?_)
          obtain ⟨x2, rfl, w2⟩ := w2
          refine pg_iast (pc := 65) h0.2.2 (b4 c0 c1 c2 c3 x2 M2 w2) dX8_value_65 ?_
          refine pg_iinc (pc := 66) (i := 4) (j := 5) (x := v4) (v := v4 + 1) (ls' := [(4, .int (v4 + 1)), (6, .int (M.1 (v0 + 1) v5.toNatClampNeg)), (0, .ref v0), (1, .int v1), (2, .int v2), (3, .int v3), (5, .int v5)]) dX8_value_66 rfl rfl (by decide) rfl ?_
          refine pg_goto (pc := 69) (tgt := 152) dX8_value_69 (by decide) ?_
          refine pg_iinc (pc := 152) (i := 5) (j := 6) (x := v5) (v := v5 + 1) (ls' := [(5, .int (v5 + 1)), (4, .int (v4 + 1)), (6, .int (M.1 (v0 + 1) v5.toNatClampNeg)), (0, .ref v0), (1, .int v1), (2, .int v2), (3, .int v3)]) dX8_value_152 rfl rfl (by decide) rfl ?_
          refine pg_goto (pc := 155) (tgt := 6) dX8_value_155 (by decide) ?_
          refine pg_drop (ks := [3, 4, 5, 6, 1, 0]) (ls' := [(0, .ref v0), (1, .int v1), (2, .int v2), (3, .int v3), (4, .int (v4 + 1)), (5, .int (v5 + 1))]) rfl ?_
          exact k8 c0 c1 c2 c3 x2 M2 w2
        · skip
          refine pg_iload (pc := 52) (i := 6) (j := 0) (x := (M.1 (v0 + 1) v5.toNatClampNeg)) dX8_value_52 rfl ?_
          refine pg_goto (pc := 54) (tgt := 65) dX8_value_54 (by decide) ?_
          refine pg_iast (pc := 65) h0.2.2 (b5 c0 c1 c2 c3) dX8_value_65 ?_
          refine pg_iinc (pc := 66) (i := 4) (j := 5) (x := v4) (v := v4 + 1) (ls' := [(4, .int (v4 + 1)), (6, .int (M.1 (v0 + 1) v5.toNatClampNeg)), (0, .ref v0), (1, .int v1), (2, .int v2), (3, .int v3), (5, .int v5)]) dX8_value_66 rfl rfl (by decide) rfl ?_
          refine pg_goto (pc := 69) (tgt := 152) dX8_value_69 (by decide) ?_
          refine pg_iinc (pc := 152) (i := 5) (j := 6) (x := v5) (v := v5 + 1) (ls' := [(5, .int (v5 + 1)), (4, .int (v4 + 1)), (6, .int (M.1 (v0 + 1) v5.toNatClampNeg)), (0, .ref v0), (1, .int v1), (2, .int v2), (3, .int v3)]) dX8_value_152 rfl rfl (by decide) rfl ?_
          refine pg_goto (pc := 155) (tgt := 6) dX8_value_155 (by decide) ?_
          refine pg_drop (ks := [3, 4, 5, 6, 1, 0]) (ls' := [(0, .ref v0), (1, .int v1), (2, .int v2), (3, .int v3), (4, .int (v4 + 1)), (5, .int (v5 + 1))]) rfl ?_
          exact k9 c0 c1 c2 c3
theorem oX8_value {d : Nat} {v0 : Nat} {v1 : Int32} {v2 : Int32} {v3 : Int32} (h : pg_At S Λ YX8_value d 0 [(0, .ref v0), (1, .int v1), (2, .int v2), (3, .int v3)] [] M P) : pg_Ev S Λ YX8_value d [.ref v0, .int v1, .int v2, .int v3] M P := pg_Ev.of (by decide) (by first | decide | exact Nat.le_of_ble_eq_true rfl) h
theorem sX8_fact_0 {v0 : Int32} {v1 : Int32} {v2 : Int32} {v3 : Int32} 
    (k0 : (¬ v0 = (-1)) → (¬ v0 = (-2)) → P (some (.int v3)) M)
    (k1 : (¬ v0 = (-1)) → (v0 = (-2)) → P (some (.int v2)) M)
    (k2 : (v0 = (-1)) → P (some (.int v1)) M) :
    pg_At S Λ YX8_fact d 0 [(0, .int v0), (1, .int v1), (2, .int v2), (3, .int v3)] [] M P := by
  refine pg_iload_n (pc := 0) (i := 0) (j := 0) (x := v0) dX8_fact_0 rfl rfl ?_
  refine pg_iconst (pc := 1) (v := (-1)) dX8_fact_1 (by decide) ?_
  refine pg_icmp_ne (pc := 2) (tgt := 7) dX8_fact_2 (by decide) (fun c0 => ?_) (fun c0 => ?_)
  · skip
    refine pg_iload_n (pc := 7) (i := 0) (j := 0) (x := v0) dX8_fact_7 rfl rfl ?_
    refine pg_bipush (pc := 8) (v := (-2)) dX8_fact_8 (by decide) ?_
    refine pg_icmp_ne (pc := 10) (tgt := 17) dX8_fact_10 (by decide) (fun c1 => ?_) (fun c1 => ?_)
    · skip
      refine pg_iload_n (pc := 17) (i := 3) (j := 3) (x := v3) dX8_fact_17 rfl rfl ?_
      exact pg_iret (pc := 18) rfl dX8_fact_18 (k0 c0 c1)
    · skip
      refine pg_iload_n (pc := 13) (i := 2) (j := 2) (x := v2) dX8_fact_13 rfl rfl ?_
      refine pg_goto (pc := 14) (tgt := 18) dX8_fact_14 (by decide) ?_
      exact pg_iret (pc := 18) rfl dX8_fact_18 (k1 c0 c1)
  · skip
    refine pg_iload_n (pc := 5) (i := 1) (j := 1) (x := v1) dX8_fact_5 rfl rfl ?_
    exact pg_iret (pc := 6) rfl dX8_fact_6 (k2 c0)
theorem oX8_fact {d : Nat} {v0 : Int32} {v1 : Int32} {v2 : Int32} {v3 : Int32} (h : pg_At S Λ YX8_fact d 0 [(0, .int v0), (1, .int v1), (2, .int v2), (3, .int v3)] [] M P) : pg_Ev S Λ YX8_fact d [.int v0, .int v1, .int v2, .int v3] M P := pg_Ev.of (by decide) (by first | decide | exact Nat.le_of_ble_eq_true rfl) h
theorem sX8_joined_0 {v0 : Int32} {v1 : Int32} {v2 : Int32} 
    (k0 : (v0 = (-10)) → P (some (.int (v1 - v2))) M)
    (k1 : (¬ v0 = (-10)) → (v0 = (-9)) → P (some (.int (v1 + v2))) M)
    (k2 : (¬ v0 = (-10)) → (¬ v0 = (-9)) → (v0 = (-8)) → (¬ v1 = v2) → P (some (.int 0)) M)
    (k3 : (¬ v0 = (-10)) → (¬ v0 = (-9)) → (v0 = (-8)) → (v1 = v2) → P (some (.int 1)) M)
    (k4 : (¬ v0 = (-10)) → (¬ v0 = (-9)) → (¬ v0 = (-8)) → (v0 = (-7)) → (v2 ≤ v1) → P (some (.int 0)) M)
    (k5 : (¬ v0 = (-10)) → (¬ v0 = (-9)) → (¬ v0 = (-8)) → (v0 = (-7)) → (¬ v2 ≤ v1) → P (some (.int 1)) M)
    (k6 : (¬ v0 = (-10)) → (¬ v0 = (-9)) → (¬ v0 = (-8)) → (¬ v0 = (-7)) → (v0 = (-6)) → (¬ v1 = 0) → P (some (.int 1)) M)
    (k7 : (¬ v0 = (-10)) → (¬ v0 = (-9)) → (¬ v0 = (-8)) → (¬ v0 = (-7)) → (v0 = (-6)) → (v1 = 0) → (v2 = 0) → P (some (.int 0)) M)
    (k8 : (¬ v0 = (-10)) → (¬ v0 = (-9)) → (¬ v0 = (-8)) → (¬ v0 = (-7)) → (v0 = (-6)) → (v1 = 0) → (¬ v2 = 0) → P (some (.int 1)) M)
    (k9 : (¬ v0 = (-10)) → (¬ v0 = (-9)) → (¬ v0 = (-8)) → (¬ v0 = (-7)) → (¬ v0 = (-6)) → (v0 = (-5)) → (v1 = 0) → P (some (.int 0)) M)
    (k10 : (¬ v0 = (-10)) → (¬ v0 = (-9)) → (¬ v0 = (-8)) → (¬ v0 = (-7)) → (¬ v0 = (-6)) → (v0 = (-5)) → (¬ v1 = 0) → (v2 = 0) → P (some (.int 0)) M)
    (k11 : (¬ v0 = (-10)) → (¬ v0 = (-9)) → (¬ v0 = (-8)) → (¬ v0 = (-7)) → (¬ v0 = (-6)) → (v0 = (-5)) → (¬ v1 = 0) → (¬ v2 = 0) → P (some (.int 1)) M)
    (k12 : (¬ v0 = (-10)) → (¬ v0 = (-9)) → (¬ v0 = (-8)) → (¬ v0 = (-7)) → (¬ v0 = (-6)) → (¬ v0 = (-5)) → P (some (.int (v1 * v2))) M) :
    pg_At S Λ YX8_joined d 0 [(0, .int v0), (1, .int v1), (2, .int v2)] [] M P := by
  refine pg_iload_n (pc := 0) (i := 0) (j := 0) (x := v0) dX8_joined_0 rfl rfl ?_
  by_cases c0 : v0 = (-10)
  · refine pg_tableIn (pc := 1) (tgt := 94) dX8_joined_1 (by rw [c0]; decide) (by rw [c0]; decide) (by rw [c0]; rfl) (by decide) ?_
    refine pg_iload_n (pc := 94) (i := 1) (j := 1) (x := v1) dX8_joined_94 rfl rfl ?_
    refine pg_iload_n (pc := 95) (i := 2) (j := 2) (x := v2) dX8_joined_95 rfl rfl ?_
    refine pg_isub (pc := 96) dX8_joined_96 ?_
    exact pg_iret (pc := 97) rfl dX8_joined_97 (k0 c0)
  by_cases c1 : v0 = (-9)
  · refine pg_tableIn (pc := 1) (tgt := 90) dX8_joined_1 (by rw [c1]; decide) (by rw [c1]; decide) (by rw [c1]; rfl) (by decide) ?_
    refine pg_iload_n (pc := 90) (i := 1) (j := 1) (x := v1) dX8_joined_90 rfl rfl ?_
    refine pg_iload_n (pc := 91) (i := 2) (j := 2) (x := v2) dX8_joined_91 rfl rfl ?_
    refine pg_iadd (pc := 92) dX8_joined_92 ?_
    exact pg_iret (pc := 93) rfl dX8_joined_93 (k1 c0 c1)
  by_cases c2 : v0 = (-8)
  · refine pg_tableIn (pc := 1) (tgt := 79) dX8_joined_1 (by rw [c2]; decide) (by rw [c2]; decide) (by rw [c2]; rfl) (by decide) ?_
    refine pg_iload_n (pc := 79) (i := 1) (j := 1) (x := v1) dX8_joined_79 rfl rfl ?_
    refine pg_iload_n (pc := 80) (i := 2) (j := 2) (x := v2) dX8_joined_80 rfl rfl ?_
    refine pg_icmp_ne (pc := 81) (tgt := 88) dX8_joined_81 (by decide) (fun c3 => ?_) (fun c3 => ?_)
    · skip
      refine pg_iconst (pc := 88) (v := 0) dX8_joined_88 (by decide) ?_
      exact pg_iret (pc := 89) rfl dX8_joined_89 (k2 c0 c1 c2 c3)
    · skip
      refine pg_iconst (pc := 84) (v := 1) dX8_joined_84 (by decide) ?_
      refine pg_goto (pc := 85) (tgt := 89) dX8_joined_85 (by decide) ?_
      exact pg_iret (pc := 89) rfl dX8_joined_89 (k3 c0 c1 c2 c3)
  by_cases c3 : v0 = (-7)
  · refine pg_tableIn (pc := 1) (tgt := 68) dX8_joined_1 (by rw [c3]; decide) (by rw [c3]; decide) (by rw [c3]; rfl) (by decide) ?_
    refine pg_iload_n (pc := 68) (i := 1) (j := 1) (x := v1) dX8_joined_68 rfl rfl ?_
    refine pg_iload_n (pc := 69) (i := 2) (j := 2) (x := v2) dX8_joined_69 rfl rfl ?_
    refine pg_icmp_ge (pc := 70) (tgt := 77) dX8_joined_70 (by decide) (fun c4 => ?_) (fun c4 => ?_)
    · skip
      refine pg_iconst (pc := 77) (v := 0) dX8_joined_77 (by decide) ?_
      exact pg_iret (pc := 78) rfl dX8_joined_78 (k4 c0 c1 c2 c3 c4)
    · skip
      refine pg_iconst (pc := 73) (v := 1) dX8_joined_73 (by decide) ?_
      refine pg_goto (pc := 74) (tgt := 78) dX8_joined_74 (by decide) ?_
      exact pg_iret (pc := 78) rfl dX8_joined_78 (k5 c0 c1 c2 c3 c4)
  by_cases c4 : v0 = (-6)
  · refine pg_tableIn (pc := 1) (tgt := 54) dX8_joined_1 (by rw [c4]; decide) (by rw [c4]; decide) (by rw [c4]; rfl) (by decide) ?_
    refine pg_iload_n (pc := 54) (i := 1) (j := 1) (x := v1) dX8_joined_54 rfl rfl ?_
    refine pg_if_ne (pc := 55) (tgt := 62) dX8_joined_55 (by decide) (fun c5 => ?_) (fun c5 => ?_)
    · skip
      refine pg_iconst (pc := 62) (v := 1) dX8_joined_62 (by decide) ?_
      refine pg_goto (pc := 63) (tgt := 67) dX8_joined_63 (by decide) ?_
      exact pg_iret (pc := 67) rfl dX8_joined_67 (k6 c0 c1 c2 c3 c4 c5)
    · skip
      refine pg_iload_n (pc := 58) (i := 2) (j := 2) (x := v2) dX8_joined_58 rfl rfl ?_
      refine pg_if_eq (pc := 59) (tgt := 66) dX8_joined_59 (by decide) (fun c6 => ?_) (fun c6 => ?_)
      · skip
        refine pg_iconst (pc := 66) (v := 0) dX8_joined_66 (by decide) ?_
        exact pg_iret (pc := 67) rfl dX8_joined_67 (k7 c0 c1 c2 c3 c4 c5 c6)
      · skip
        refine pg_iconst (pc := 62) (v := 1) dX8_joined_62 (by decide) ?_
        refine pg_goto (pc := 63) (tgt := 67) dX8_joined_63 (by decide) ?_
        exact pg_iret (pc := 67) rfl dX8_joined_67 (k8 c0 c1 c2 c3 c4 c5 c6)
  by_cases c5 : v0 = (-5)
  · refine pg_tableIn (pc := 1) (tgt := 40) dX8_joined_1 (by rw [c5]; decide) (by rw [c5]; decide) (by rw [c5]; rfl) (by decide) ?_
    refine pg_iload_n (pc := 40) (i := 1) (j := 1) (x := v1) dX8_joined_40 rfl rfl ?_
    refine pg_if_eq (pc := 41) (tgt := 52) dX8_joined_41 (by decide) (fun c6 => ?_) (fun c6 => ?_)
    · skip
      refine pg_iconst (pc := 52) (v := 0) dX8_joined_52 (by decide) ?_
      exact pg_iret (pc := 53) rfl dX8_joined_53 (k9 c0 c1 c2 c3 c4 c5 c6)
    · skip
      refine pg_iload_n (pc := 44) (i := 2) (j := 2) (x := v2) dX8_joined_44 rfl rfl ?_
      refine pg_if_eq (pc := 45) (tgt := 52) dX8_joined_45 (by decide) (fun c7 => ?_) (fun c7 => ?_)
      · skip
        refine pg_iconst (pc := 52) (v := 0) dX8_joined_52 (by decide) ?_
        exact pg_iret (pc := 53) rfl dX8_joined_53 (k10 c0 c1 c2 c3 c4 c5 c6 c7)
      · skip
        refine pg_iconst (pc := 48) (v := 1) dX8_joined_48 (by decide) ?_
        refine pg_goto (pc := 49) (tgt := 53) dX8_joined_49 (by decide) ?_
        exact pg_iret (pc := 53) rfl dX8_joined_53 (k11 c0 c1 c2 c3 c4 c5 c6 c7)
  have g0 : v0.toInt ≠ (-10) := pg_ne c0 (by decide)
  have g1 : v0.toInt ≠ (-9) := pg_ne c1 (by decide)
  have g2 : v0.toInt ≠ (-8) := pg_ne c2 (by decide)
  have g3 : v0.toInt ≠ (-7) := pg_ne c3 (by decide)
  have g4 : v0.toInt ≠ (-6) := pg_ne c4 (by decide)
  have g5 : v0.toInt ≠ (-5) := pg_ne c5 (by decide)
  refine pg_tableOut (pc := 1) (tgt := 98) dX8_joined_1 (by omega) (by decide) ?_
  refine pg_iload_n (pc := 98) (i := 1) (j := 1) (x := v1) dX8_joined_98 rfl rfl ?_
  refine pg_iload_n (pc := 99) (i := 2) (j := 2) (x := v2) dX8_joined_99 rfl rfl ?_
  refine pg_imul (pc := 100) dX8_joined_100 ?_
  exact pg_iret (pc := 101) rfl dX8_joined_101 (k12 c0 c1 c2 c3 c4 c5)
theorem oX8_joined {d : Nat} {v0 : Int32} {v1 : Int32} {v2 : Int32} (h : pg_At S Λ YX8_joined d 0 [(0, .int v0), (1, .int v1), (2, .int v2)] [] M P) : pg_Ev S Λ YX8_joined d [.int v0, .int v1, .int v2] M P := pg_Ev.of (by decide) (by first | decide | exact Nat.le_of_ble_eq_true rfl) h

end PGS

